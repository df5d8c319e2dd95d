/-! ===== an instruction, a stretch, a whole method ===== -/
theorem mm_step {d : Nat} {M : mmMi} {P : Option Value → mmMem → Prop} {k : List Value → List Value → mmMem → Prop} {L st : List Value} {μ : mmMem} (q : mmMI) (hok : mmOkI M q = true) (hk : ∀ L st μ, k L st μ → mmEnds d M (q.1 + q.2.2.1) L st μ P) (h : wpI d M P q k L st μ) : mmEnds d M q.1 L st μ P := by
  obtain ⟨pc, i, len, w, a, b, v, Mc⟩ := q
  dsimp only at hk ⊢
  cases i with
  | iconst x0 => exact st_iconst hok hk h
  | bipush x0 => exact st_bipush hok hk h
  | sipush x0 => exact st_sipush hok hk h
  | lconst x0 => exact st_lconst hok hk h
  | dconst x0 => exact st_dconst hok hk h
  | ldc x0 => exact st_ldc hok hk h
  | ldc_w x0 => exact st_ldc_w hok hk h
  | ldc2_w x0 => exact st_ldc2_w hok hk h
  | aload x0 => exact st_aload hok hk h
  | aload_n x0 => exact st_aload_n hok hk h
  | iload x0 => exact st_iload hok hk h
  | iload_n x0 => exact st_iload_n hok hk h
  | lload x0 => exact st_lload hok hk h
  | lload_n x0 => exact st_lload_n hok hk h
  | fload x0 => exact st_fload hok hk h
  | fload_n x0 => exact st_fload_n hok hk h
  | dload x0 => exact st_dload hok hk h
  | dload_n x0 => exact st_dload_n hok hk h
  | istore x0 => exact st_istore hok hk h
  | istore_n x0 => exact st_istore_n hok hk h
  | astore x0 => exact st_astore hok hk h
  | astore_n x0 => exact st_astore_n hok hk h
  | lstore x0 => exact st_lstore hok hk h
  | lstore_n x0 => exact st_lstore_n hok hk h
  | dstore x0 => exact st_dstore hok hk h
  | dstore_n x0 => exact st_dstore_n hok hk h
  | iinc x0 x1 => exact st_iinc hok hk h
  | iadd => exact st_iadd hok hk h
  | isub => exact st_isub hok hk h
  | imul => exact st_imul hok hk h
  | iand => exact st_iand hok hk h
  | ior => exact st_ior hok hk h
  | idiv => exact st_idiv hok hk h
  | irem => exact st_irem hok hk h
  | ishl => exact st_ishl hok hk h
  | ishr => exact st_ishr hok hk h
  | ineg => exact st_ineg hok hk h
  | ladd => exact st_ladd hok hk h
  | lsub => exact st_lsub hok hk h
  | lmul => exact st_lmul hok hk h
  | land => exact st_land hok hk h
  | lor => exact st_lor hok hk h
  | lxor => exact st_lxor hok hk h
  | ldiv => exact st_ldiv hok hk h
  | lrem => exact st_lrem hok hk h
  | lneg => exact st_lneg hok hk h
  | lshl => exact st_lshl hok hk h
  | lcmp => exact st_lcmp hok hk h
  | i2l => exact st_i2l hok hk h
  | l2i => exact st_l2i hok hk h
  | i2b => exact st_i2b hok hk h
  | i2s => exact st_i2s hok hk h
  | i2c => exact st_i2c hok hk h
  | l2d => exact st_l2d hok hk h
  | l2f => exact st_l2f hok hk h
  | f2d => exact st_f2d hok hk h
  | d2f => exact st_d2f hok hk h
  | d2l => exact st_d2l hok hk h
  | d2i => exact st_d2i hok hk h
  | f2l => exact st_f2l hok hk h
  | dneg => exact st_dneg hok hk h
  | dadd => exact st_dadd hok hk h
  | dsub => exact st_dsub hok hk h
  | dmul => exact st_dmul hok hk h
  | ddiv => exact st_ddiv hok hk h
  | fmul => exact st_fmul hok hk h
  | fdiv => exact st_fdiv hok hk h
  | dcmp x0 => exact st_dcmp hok hk h
  | fcmp x0 => exact st_fcmp hok hk h
  | dup => exact st_dup hok hk h
  | dup2 => exact st_dup2 hok hk h
  | ifCond x0 x1 => exact st_ifCond hok hk h
  | if_icmp x0 x1 => exact st_if_icmp hok hk h
  | goto x0 => exact st_goto hok hk h
  | tableswitch x0 x1 x2 x3 => exact st_tableswitch hok hk h
  | lookupswitch x0 x1 => exact st_lookupswitch hok hk h
  | getfield x0 => exact st_getfield hok hk h
  | putfield x0 => exact st_putfield hok hk h
  | iaload => exact st_iaload hok hk h
  | laload => exact st_laload hok hk h
  | daload => exact st_daload hok hk h
  | baload => exact st_baload hok hk h
  | aaload => exact st_aaload hok hk h
  | iastore => exact st_iastore hok hk h
  | lastore => exact st_lastore hok hk h
  | dastore => exact st_dastore hok hk h
  | bastore => exact st_bastore hok hk h
  | arraylength => exact st_arraylength hok hk h
  | invokevirtual x0 => exact st_invokevirtual hok hk h
  | invokestatic n =>
    by_cases hb0 : b = 0
    · subst hb0
      exact st_invokestatic0 hok hk h
    · by_cases hb1 : b = 1
      · subst hb1
        exact st_invokestatic1 hok hk h
      · by_cases hbb : b = 10 ∨ b = 11 ∨ b = 12
        · exact st_arraycopy hbb hok hk h
        · exfalso
          unfold wpI at h
          dsimp only at h
          split at h
          · exact hb0 rfl
          · exact hb1 rfl
          · obtain ⟨n1, r1, q1, h1⟩ := pI_ok h
            obtain ⟨dp, r2, q2, h2⟩ := pI_ok h1
            obtain ⟨y, r3, q3, h3⟩ := pA_ok h2
            obtain ⟨sp, r4, q4, h4⟩ := pI_ok h3
            obtain ⟨x, r5, q5, h1d, hKx, hKy, hsp, hdp, hn, hl1, hl2, h5⟩ := pA_ok h4
            obtain ⟨hc8, h6⟩ := mif_ok h5
            split at h6
            · exact hbb (Or.inl rfl)
            · exact hbb (Or.inr (Or.inl rfl))
            · exact hbb (Or.inr (Or.inr rfl))
            · exact h6
  | ireturn => exact st_ireturn hok hk h
  | lreturn => exact st_lreturn hok hk h
  | dreturn => exact st_dreturn hok hk h
  | freturn => exact st_freturn hok hk h
  | areturn => exact st_areturn hok hk h
  | return_ => exact st_return_ hok hk h
  | _ => exact False.elim h
theorem mm_segE {d : Nat} {M : mmMi} {P : Option Value → mmMem → Prop} {e : Nat} : ∀ (seg : List mmMI) {L st : List Value} {μ : mmMem}, mmOk M e seg = true → wpS d M P e seg L st μ → mmEnds d M (mmHead seg e) L st μ P
  | [], _, _, _, _, h => h
  | q :: t, L, st, μ, ho, h => by
    simp only [mmOk, Bool.and_eq_true, beq_iff_eq] at ho
    obtain ⟨⟨h1, h2⟩, h3⟩ := ho
    refine mm_step q h1 (fun L st μ hh => ?_) h
    rw [h2]
    exact mm_segE t h3 hh
theorem mm_seg {d : Nat} {M : mmMi} {P : Option Value → mmMem → Prop} {e : Nat} {q : mmMI} {t : List mmMI} {L st : List Value} {μ : mmMem} (ho : mmOk M e (q :: t) = true) (h : wpS d M P e (q :: t) L st μ) : mmEnds d M q.1 L st μ P := mm_segE (q :: t) ho h
theorem mmEnds.mono {d : Nat} {M : mmMi} {pc : Nat} {L st : List Value} {μ : mmMem} {P Q : Option Value → mmMem → Prop} (h : mmEnds d M pc L st μ P) (hq : ∀ v ν, P v ν → Q v ν) : mmEnds d M pc L st μ Q := by
  intro p l e s m args below meth c H locs B H0 sk sv D cA ls hx hb hr hml hown hts hlk hS hls hH hF hB T hT X
  obtain ⟨t, a1, o, b1, b2, ⟨v, ν, e1, e2, e3⟩, b4⟩ := h p l e s m args below meth c H locs B H0 sk sv D cA ls hx hb hr hml hown hts hlk hS hls hH hF hB T hT X
  exact ⟨t, a1, o, b1, b2, ⟨v, ν, e1, hq v ν e2, e3⟩, b4⟩
/-! ===== trees of stretches: J says what a jump comes to ===== -/
def wpJ (J : Nat → List Value → List Value → mmMem → Prop) (d : Nat) (M : mmMi) (P : Option Value → mmMem → Prop) (q : mmMI) (k : List Value → List Value → mmMem → Prop) (L st : List Value) (μ : mmMem) : Prop :=
  match q with
  | (pc, i, len, w, a, b, v, Mc) => match i with
    | .ifCond c _ => pI st fun x r => (mmCt c x 0 → J a L r μ) ∧ (mmCf c x 0 → k L r μ)
    | .if_icmp c _ => pI st fun y r => pI r fun x r => (mmCt c x y → J a L r μ) ∧ (mmCf c x y → k L r μ)
    | .goto _ => J a L st μ
    | .tableswitch dflt lo hi offs => pI st fun x r => (x.toInt < lo ∨ hi < x.toInt → J ((pc : Int) + dflt).toNat L r μ) ∧ mmTs pc x (fun t => J t L r μ) lo offs.toList
    | .lookupswitch dflt ps => pI st fun x r => mmLk pc x (fun t => J t L r μ) dflt ps.toList
    | i => wpI d M P (pc, i, len, w, a, b, v, Mc) k L st μ
theorem mmTs_mono {pc : Nat} {x : Int32} {E F : Nat → Prop} (h : ∀ t, E t → F t) : ∀ (l : List Int) (lo : Int), mmTs pc x E lo l → mmTs pc x F lo l
  | [], _, _ => trivial
  | _ :: l, lo, q => ⟨fun e => h _ (q.1 e), mmTs_mono h l (lo + 1) q.2⟩
theorem mmLk_mono {pc : Nat} {x : Int32} {E F : Nat → Prop} {d : Int} (h : ∀ t, E t → F t) : ∀ (l : List (Int × Int)), mmLk pc x E d l → mmLk pc x F d l
  | [], q => h _ q
  | _ :: l, q => ⟨fun e => h _ (q.1 e), fun e => mmLk_mono h l (q.2 e)⟩
theorem wpJ_ok {J : Nat → List Value → List Value → mmMem → Prop} {d : Nat} {M : mmMi} {P : Option Value → mmMem → Prop} {q : mmMI} {k : List Value → List Value → mmMem → Prop} {L st : List Value} {μ : mmMem} (hJ : ∀ a L st μ, J a L st μ → mmEnds d M a L st μ P) (h : wpJ J d M P q k L st μ) : wpI d M P q k L st μ := by
  obtain ⟨pc, i, len, w, a, b, v, Mc⟩ := q
  cases i with
  | ifCond c n =>
    obtain ⟨x, r, rfl, h⟩ := pI_ok h
    exact ⟨fun e => hJ _ _ _ _ (h.1 e), h.2⟩
  | if_icmp c n =>
    obtain ⟨y, r, rfl, h⟩ := pI_ok h
    obtain ⟨x, r, rfl, h⟩ := pI_ok h
    exact ⟨fun e => hJ _ _ _ _ (h.1 e), h.2⟩
  | goto n => exact hJ _ _ _ _ h
  | tableswitch f lo hi offs =>
    obtain ⟨x, r, rfl, h⟩ := pI_ok h
    exact ⟨fun e => hJ _ _ _ _ (h.1 e), mmTs_mono (fun t => hJ t L r μ) _ _ h.2⟩
  | lookupswitch f ps =>
    obtain ⟨x, r, rfl, h⟩ := pI_ok h
    exact mmLk_mono (fun t => hJ t L r μ) _ h
  | _ => exact h
def wpC (J : Nat → List Value → List Value → mmMem → Prop) (d : Nat) (M : mmMi) (P : Option Value → mmMem → Prop) (e : Nat) : List mmMI → List Value → List Value → mmMem → Prop
  | [], L, st, μ => J e L st μ
  | q :: t, L, st, μ => wpJ J d M P q (fun L st μ => wpC J d M P e t L st μ) L st μ
theorem wpC_ok {J : Nat → List Value → List Value → mmMem → Prop} {d : Nat} {M : mmMi} {P : Option Value → mmMem → Prop} {e : Nat} (hJ : ∀ a L st μ, J a L st μ → mmEnds d M a L st μ P) : ∀ (seg : List mmMI) {L st : List Value} {μ : mmMem}, mmOk M e seg = true → wpC J d M P e seg L st μ → mmEnds d M (mmHead seg e) L st μ P
  | [], _, _, _, _, h => hJ _ _ _ _ h
  | q :: t, L, st, μ, ho, h => by
    simp only [mmOk, Bool.and_eq_true, beq_iff_eq] at ho
    obtain ⟨⟨h1, h2⟩, h3⟩ := ho
    refine mm_step q h1 (fun L st μ hh => ?_) (wpJ_ok hJ h)
    rw [h2]
    exact wpC_ok hJ t h3 hh
/-- blocks: where each begins, its rows, where it goes on behind them -/
abbrev mmBl : Type := List (Nat × List mmMI × Nat)
def mmFind : mmBl → Nat → Option (List mmMI × Nat)
  | [], _ => none
  | q :: t, pc => match Nat.beq q.1 pc with
    | true => some q.2
    | false => mmFind t pc
def wpT (bl : mmBl) (d : Nat) (M : mmMi) (P : Option Value → mmMem → Prop) : Nat → Nat → List Value → List Value → mmMem → Prop
  | 0, pc, L, st, μ => mmEnds d M pc L st μ P
  | n + 1, pc, L, st, μ => match mmFind bl pc with
    | some (seg, e) => wpC (wpT bl d M P n) d M P e seg L st μ
    | none => mmEnds d M pc L st μ P
def mmOkB (M : mmMi) (bl : mmBl) : Bool := bl.all fun q => mmOk M q.2.2 q.2.1 && Nat.beq (mmHead q.2.1 q.2.2) q.1
theorem mmFind_ok {bl : mmBl} {pc : Nat} {q : List mmMI × Nat} (h : mmFind bl pc = some q) : (pc, q) ∈ bl := by
  induction bl with
  | nil => cases h
  | cons x t ih =>
    unfold mmFind at h
    split at h
    · rename_i hb
      have := Nat.eq_of_beq_eq_true hb
      cases h
      subst this
      exact List.mem_cons_self
    · exact List.mem_cons_of_mem _ (ih h)
theorem wpT_ok {bl : mmBl} {d : Nat} {M : mmMi} {P : Option Value → mmMem → Prop} (hb : mmOkB M bl = true) : ∀ (n pc : Nat) (L st : List Value) (μ : mmMem), wpT bl d M P n pc L st μ → mmEnds d M pc L st μ P
  | 0, _, _, _, _, h => h
  | n + 1, pc, L, st, μ, h => by
    unfold wpT at h
    split at h
    · rename_i seg e hf
      have h1 := List.all_eq_true.mp hb _ (mmFind_ok hf)
      simp only [Bool.and_eq_true] at h1
      have h2 := wpC_ok (wpT_ok hb n) seg h1.1 h
      rwa [Nat.eq_of_beq_eq_true h1.2] at h2
    · exact h
/-- from a block on, the blocks of bl opened as they come -/
theorem mm_tree {bl : mmBl} {d : Nat} {M : mmMi} {P : Option Value → mmMem → Prop} (n : Nat) {e : Nat} {seg : List mmMI} {pc : Nat} {L st : List Value} {μ : mmMem} (hb : mmOkB M bl = true) (ho : mmOkB M [(pc, seg, e)] = true) (h : wpC (wpT bl d M P n) d M P e seg L st μ) : mmEnds d M pc L st μ P := by
  simp only [mmOkB, List.all_cons, List.all_nil, Bool.and_true, Bool.and_eq_true] at ho
  have h2 := wpC_ok (wpT_ok hb n) seg ho.1 h
  rwa [Nat.eq_of_beq_eq_true ho.2] at h2
/-- locals where a method begins -/
def mmLo : Nat → List Value → List Value
  | n, [] => List.replicate n (.retAddr 7)
  | n, v :: l => match v with
    | .long _ => v :: .retAddr 7 :: mmLo (n - 2) l
    | .double _ => v :: .retAddr 7 :: mmLo (n - 2) l
    | _ => v :: mmLo (n - 1) l
theorem mmLo_mem (B : Nat) (sk : Nat → Nat) : ∀ (as : List Value) (n off i : Nat) (v : Value), (mmLo n as)[i]? = some v → v ≠ .retAddr 7 → (off + i, mmV B sk v) ∈ lv_args off (as.map (mmV B sk)) := by
  intro as
  induction as with
  | nil =>
    intro n off i v h hv
    simp only [mmLo, List.getElem?_replicate] at h
    split at h
    · cases h
      exact absurd rfl hv
    · cases h
  | cons a l ih =>
    intro n off i v h hv
    have one : ∀ (m : Nat), (a :: mmLo m l)[i]? = some v → (mmV B sk a).category = 1 → (off + i, mmV B sk v) ∈ lv_args off ((a :: l).map (mmV B sk)) := by
      intro m hh hc
      cases i with
      | zero =>
        cases hh
        simp [lv_args]
      | succ i =>
        have := ih m (off + 1) i v (by simpa using hh) hv
        simp only [List.map_cons, lv_args, hc, List.mem_cons]
        right
        have e1 : off + 1 + i = off + (i + 1) := by omega
        rwa [e1] at this
    have two : ∀ (m : Nat), (a :: Value.retAddr 7 :: mmLo m l)[i]? = some v → (mmV B sk a).category = 2 → (off + i, mmV B sk v) ∈ lv_args off ((a :: l).map (mmV B sk)) := by
      intro m hh hc
      match i, hh with
      | 0, hh =>
        cases hh
        simp [lv_args]
      | 1, hh =>
        cases hh
        exact absurd rfl hv
      | i + 2, hh =>
        have := ih m (off + 2) i v (by simpa using hh) hv
        simp only [List.map_cons, lv_args, hc, List.mem_cons]
        right
        have e1 : off + 2 + i = off + (i + 2) := by omega
        rwa [e1] at this
    cases a with
    | long x => exact two _ h rfl
    | double x => exact two _ h rfl
    | _ => exact one _ h rfl
theorem mm_sl (B : Nat) (sk : Nat → Nat) : ∀ as : List Value, (lg_sl (as.map (mmV B sk))).length = mcat as := by
  intro as
  induction as with
  | nil => rfl
  | cons a l ih =>
    have e : lg_sl ((a :: l).map (mmV B sk)) = (if (mmV B sk a).category = 2 then [Slot.val (mmV B sk a), .second] else [.val (mmV B sk a)]) ++ lg_sl (l.map (mmV B sk)) := by simp [lg_sl]
    rw [e, List.length_append, ih, mcat]
    cases a <;> rfl
theorem mmCall.of {d : Nat} {M : mmMi} {as : List Value} {μ : mmMem} {P : Option Value → mmMem → Prop} (hy : plainFor M.1 = true) (hn : Nat.ble (mcat as) M.2.2.1 = true) (h : mmEnds d M 0 (mmLo M.2.2.1 as) [] μ P) : mmCall d M as μ P := by
  intro l B H0 sk sv D cA
  refine Jvm.Free.MetFree.of_bodySF (code := M.2.1) (maxLocals := M.2.2.1) (ret := M.2.2.2) hy (fun args s m hb hn => by
    obtain ⟨meth, c, h1, h2, h3, h4, h5, h6, -, -⟩ := Cond.code_spec hn (atoms_spec (ws := mmWs M) hb _ List.mem_cons_self)
    exact ⟨meth, c, h1, h2, h3, h4, h5, h6⟩) ?_
  intro p e s m args below meth c s₁ Bd hml hP _
  obtain ⟨rfl, hH, hS⟩ := hP
  have hh0 : s₁.heap = s.heap := by rw [Bd.state]; rfl
  have hts := atoms_spec (ws := mmWs M) Bd.pre
  rw [lg_entry_eq]
  have hen := lv_entry (as.map (mmV B sk)) (n := M.2.2.1) (by rw [mm_sl]; exact Nat.le_of_ble_eq_true hn)
  obtain ⟨t, a1, o, b1, b2, b3⟩ := h p l e s m _ below meth c s.heap [] B H0 sk sv D cA _ Bd.exec Bd.bytes Bd.returns hml (findClass_of_methodNamed Bd.named) (fun w hw => hts w (List.mem_cons_of_mem _ hw)) Bd.notSynchronized hS ⟨lv_args 0 _, hen, fun i v h1 h2 => by simpa using mmLo_mem B sk as _ 0 i v h1 h2⟩ hH ⟨Nat.le_refl _, fun q _ _ => rfl, fun q hq => by cases hq⟩ hH.1 s₁ hh0 (Stand.of_body Bd)
  exact ⟨t, o, a1, b1, b2, ⟨b3.1, b3.2⟩⟩
theorem mmCU.of {d d' : Nat} {M : mmMi} {st : Bool} {n : Nat} {as : List Value} {μ : mmMem} {P : Option Value → mmMem → Prop} (hg : mmGd M st n) (hy : plainFor M.1 = true) (hl : as.length = (match st with | true => n | false => n + 1)) (hn : Nat.ble (mcat as) M.2.2.1 = true) (hd : d' < d) (h : mmEnds d' M 0 (mmLo M.2.2.1 as) [] μ P) : mmCU d M st n as μ P :=
  by cases st <;> exact ⟨hg, hl, d', hd, P, fun _ _ h => h, mmCall.of hy hn h⟩

