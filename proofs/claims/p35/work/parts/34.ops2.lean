/-! ===== the class: asked and written ===== -/
theorem c_widens {d : Nat} {a b : Int32} {μ : mmMem} {K : Int32 → mmMem → Prop} (hd : 1 ≤ d) (h : K (if aWid a b = true then 1 else 0) μ) : mmCI d M_X7_widens true 2 [.int a, .int b] μ K := by
  refine u_X7_widens hd ?_
  have f : aWid a b = false → K 0 μ := fun e => by rw [e] at h; exact h
  have t : aWid a b = true → K 1 μ := fun e => by rw [e] at h; exact h
  refine ⟨fun n => ⟨fun z => f ?_, fun z => ⟨fun z2 => f ?_, fun z2 => ⟨fun z3 => ⟨fun l => f ?_, fun l => t ?_⟩, fun z3 => ⟨fun z4 => ⟨fun l => f ?_, fun l => t ?_⟩, fun z4 => f ?_⟩⟩⟩⟩, fun n => t ?_⟩
  · unfold aWid; rw [if_neg n, if_pos (Or.inl z)]
  · unfold aWid; rw [if_neg n, if_pos (Or.inr (Or.inl z2))]
  · simp [aWid, n, z, z2, z3, l]
  · simp [aWid, n, z, z2, z3, Int32.not_le.mp l]
  · simp [aWid, n, z, z2, z4, l]
  · simp [aWid, n, z, z2, z4, Int32.not_le.mp l]
  · simp [aWid, n, z, z2, z3, z4]
  · simp [aWid, n]
theorem c_askRefusal {d : Nat} {k r a : Int32} {S : aS} {μ : mmMem} {K : Int32 → mmMem → Prop} (hd : 2 ≤ d) (hC : CS μ S) (h : K (aref S.1 k r a) μ) : mmCI d M_X7_askRefusal false 3 [.ref 0, .int k, .int r, .int a] μ K := by
  refine u_X7_askRefusal (by omega) ?_
  rw [hC.1.1.1]
  unfold aref at h
  refine ⟨fun q => ?_, fun q => ⟨fun q2 => ?_, fun q2 => ?_⟩⟩
  · rw [if_neg (fun w => w.1 q)] at h
    refine ⟨fun l => ?_, fun l => ⟨fun m => ?_, fun m => ?_⟩⟩
    · rw [if_pos (Or.inl l)] at h; exact h
    · rw [if_pos (Or.inr (Int32.not_lt.mpr m))] at h; exact h
    · rw [if_neg (by rintro (w | w); exact l w; exact m (Int32.not_lt.mp w)), if_pos (Or.inl q)] at h; exact h
  · rw [if_neg (fun w => absurd w.2 (Int32.not_lt.mpr q2))] at h
    refine ⟨fun l => ?_, fun l => ⟨fun m => ?_, fun m => ?_⟩⟩
    · rw [if_pos (Or.inl l)] at h; exact h
    · rw [if_pos (Or.inr (Int32.not_lt.mpr m))] at h; exact h
    · rw [if_neg (by rintro (w | w); exact l w; exact m (Int32.not_lt.mp w))] at h
      refine c_widens (by omega) ?_
      refine ⟨fun w => ?_, fun w => ?_⟩
      · cases hh : aWid k a with
        | true => rw [hh] at w; exact absurd w (by decide)
        | false => rw [hh, if_neg (by rintro (v | v); exact q v; exact absurd v (by decide))] at h; exact h
      · cases hh : aWid k a with
        | true => rw [hh, if_pos (Or.inr rfl)] at h; exact h
        | false => rw [hh] at w; exact absurd rfl w
  · rw [if_pos ⟨q, Int32.not_le.mp q2⟩] at h; exact h
theorem aref_0 {T : aT} {k r a : Int32} (h : aref T k r a = 0) : ¬ noRow T r ∧ (a = 8 ∨ (aWid k a = true ∧ k ≤ 7)) := by
  unfold aref at h
  split at h
  · exact absurd h (by decide)
  · rename_i n1
    split at h
    · exact absurd h (by decide)
    · rename_i n2
      split at h
      · rename_i n3
        refine ⟨n2, ?_⟩
        by_cases a8 : a = 8
        · exact Or.inl a8
        · refine Or.inr ⟨n3.resolve_left a8, Int32.not_lt.mp fun w => n1 ⟨a8, w⟩⟩
      · exact absurd h (by decide)
theorem CS.got {μ : mmMem} {S : aS} (h : CS μ S) (v : Int64) : CS (sJ μ 0 15 v) (sGot S v) := by
  obtain ⟨h1, h2, h3, h4, h5, h8, h9⟩ := h
  have e : ∀ q, q ≠ 0 → eq3 μ (sJ μ 0 15 v) q := fun q hq => by simp [eq3, sJ, hq]
  exact ⟨h1.fr h2 (fun q _ _ => e q (by omega)), h2, h3.fr rfl (fun q _ _ => e q (by omega)), by simp [sJ, vp_updL, sGot], h5, h8, h9⟩
theorem isB_i {a : Int32} (h1 : ¬ a < 0) (h2 : a ≤ 7) : isB a := by
  rw [Int32.lt_iff_toInt_lt] at h1
  rw [Int32.le_iff_toInt_le] at h2
  exact isB_of (Int.not_lt.mp h1) h2
theorem fitK.box {k : Int32} {x : aC} (h : fitK k x) (hk : 0 ≤ k.toInt) (h7 : k ≤ 7) : x.1 = k ∧ isB k := by
  refine ⟨h.1 h7, isB_i (fun w => ?_) h7⟩
  rw [Int32.lt_iff_toInt_lt] at w
  exact absurd w (Int.not_lt.mpr hk)
theorem c_ask {d : Nat} {c r a : Int32} {S : aS} {μ : mmMem} {K : Int32 → mmMem → Prop} (hd : 5 ≤ d) (hC : CS μ S) (h : ∀ ν, CS ν (sp_ask c r a S).2 → hiE μ ν → K (sp_ask c r a S).1 ν) : mmCI d M_X7_ask false 3 [.ref 0, .int c, .int r, .int a] μ K := by
  refine u_X7_ask (by omega) ?_
  refine c_columnRefusal (by omega) hC (fun ν hν hh => ?_)
  refine ⟨fun q => ?_, fun q => ?_⟩
  · obtain ⟨k, col, hk, rfl, hcol, hg⟩ := cref_0 q
    have e := withC_ok (f := fun _ col => if a < 0 ∨ 8 < a then (-2, S) else if aref S.1 col.1 r a = 0 then (if a = 8 then (100 + enK (col.2.2 r.toNatClampNeg), sGot S (col.2.2 r.toNatClampNeg).2) else (1, sGot S (aCast (col.2.2 r.toNatClampNeg) a))) else (aref S.1 col.1 r a, rfs S (aref S.1 col.1 r a))) hk q hcol
    rw [show sp_ask (nI k) r a S = _ from e] at h
    rw [q] at hν
    replace hν : CS ν S := hν
    rw [nI_clamp (by omega)]
    have hcc := hν.colC hcol
    have hoc := hν.okCol hcol
    refine ⟨fun l => ?_, fun l => ⟨fun l2 => ?_, fun l2 => ?_⟩⟩
    · rw [if_pos (Or.inl l)] at h
      exact h ν hν hh
    · rw [if_neg (by rintro (w | w); exact l w; exact absurd w (Int32.not_lt.mpr l2))] at h
      refine ⟨vp_in_nI hk (by decide), ?_⟩
      rw [hcc.1]
      refine c_askRefusal (by omega) hν ?_
      refine ⟨fun z => ?_, fun z => ?_⟩
      · rw [if_pos z] at h
        obtain ⟨hr, hw⟩ := aref_0 z
        obtain ⟨i, hi, rfl⟩ := row_of hC.2.1 hr
        have hrr := hC.2.1.1
        rw [nI_clamp (by omega)] at h
        refine c_load (by omega) (kcol k hk).1 kd_152 hcc hi hrr ?_
        have s1 := setC_scr ν 152 (col.2.2 i) (by decide) (by decide)
        obtain ⟨okx, fit⟩ := hoc.2.2 i hi
        refine ⟨fun n8 => ?_, fun n8 => ?_⟩
        · rw [if_neg n8] at h
          obtain ⟨hw1, hw2⟩ := hw.resolve_left n8
          obtain ⟨fx, bx⟩ := fit.box hoc.1 hw2
          have ba : isB a := isB_i l (by
            rw [Int32.le_iff_toInt_le] at l2 ⊢
            have : a.toInt ≠ 8 := fun w => n8 (Int32.toInt_inj.mp w)
            have e8 : (8 : Int32).toInt = 8 := rfl
            have e7 : (7 : Int32).toInt = 7 := rfl
            omega)
          have bx' : isB (col.2.2 i).1 := by rw [fx]; exact bx
          refine c_turnInto (by omega) kd_152 (setC_cl _ _ _) okx bx' ba ?_
          have s2 := s1.trans (setC_scr _ 152 (a, aCast (col.2.2 i) a) (by decide) (by decide))
          refine c_bits (by omega) kd_152 (setC_cl _ _ _) (ok_cast okx bx' ba) ?_
          have hC2 := (hν.scr s2).got (aCast (col.2.2 i) a)
          exact h _ hC2 ((hh.trans s2.hi).trans fun q hq => by
            have : q ≠ 0 := by omega
            simp [eq3, sJ, this])
        · rw [if_pos n8] at h
          refine c_bits (by omega) kd_152 (setC_cl _ _ _) okx ?_
          rw [(setC_cl ν 152 (col.2.2 i)).1]
          have hC2 := (hν.scr s1).got (col.2.2 i).2
          exact h _ hC2 ((hh.trans s1.hi).trans fun q hq => by
            have : q ≠ 0 := by omega
            simp [eq3, sJ, this])
      · rw [if_neg z] at h
        exact c_refused (by omega) hν (fun ν2 h2 g2 => h ν2 h2 (hh.trans g2))
    · rw [if_pos (Or.inr (Int32.not_le.mp l2))] at h
      exact h ν hν hh
  · have e : sp_ask c r a S = (cref S.1 c, rfs S (cref S.1 c)) := withC_no q
    rw [e] at h
    exact h ν hν hh
/-! ===== written ===== -/
def setRow (c : aCol) (r : Nat) (x : aC) : aCol := (c.1, c.2.1, fun i => if i = r then x else c.2.2 i)
theorem colUpd.row {μ ν : mmMem} {a n r : Nat} {c : aCol} {x : aC} (h : colUpd μ ν a (fun i => if i = r then some x else none)) (hc : colC μ a n c) : colC ν a n (setRow c r x) := by
  obtain ⟨h1, h2, h3⟩ := h
  obtain ⟨c1, c2, c3⟩ := hc
  have e := h1 a (by omega) (by omega) (by omega)
  refine ⟨by rw [e.1]; exact c1, by rw [e.1]; exact c2, fun i hi => ?_⟩
  obtain ⟨g1, g2, g3⟩ := h3 i
  rw [g1, g2, g3]
  dsimp only [setRow]
  by_cases q : i = r
  · rw [if_pos q, if_pos q]; exact ⟨rfl, rfl, rfl⟩
  · rw [if_neg q, if_neg q]; exact c3 i hi
theorem okCol.row {n r : Nat} {c : aCol} {x : aC} (h : okCol n c) (hx : okC x ∧ fitK c.1 x) : okCol n (setRow c r x) := by
  refine ⟨h.1, h.2.1, fun i hi => ?_⟩
  dsimp only [setRow]
  by_cases q : i = r
  · rw [if_pos q]; exact hx
  · rw [if_neg q]; exact h.2.2 i hi
