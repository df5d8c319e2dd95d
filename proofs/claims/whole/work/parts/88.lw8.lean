/-! ===== the law's cases 24 to 31 ===== -/
theorem lw_k24 {p : Program} {l : Launch} {e : Env} {s : State} {m : MethodId} {below : List Frame} {meth : Method} {c : Code} {b L : Nat} {xs : Nat → Int32} {sk sv : Nat → Nat} {D : va_G} {cA : Nat → ClassId} {μ : mmMem} {S : aS} (C : lwC p s m meth c b L xs sk sv D cA) (hL2 : L ≤ 3584) (i : Nat) (hi : i + 7 ≤ L) (hC : CS μ S) (hM : MS μ S) (k : ∀ ν S', CS ν S' → MS ν S' → lwE p l e s m below meth c b D cA ν 1311 [.ref b, .ref (s.heap.size + 0), .ref (s.heap.size + 160), .int (nI i)] []) : lwE p l e s m below meth c b D cA μ 1137 [.ref b, .ref (s.heap.size + 0), .ref (s.heap.size + 160), .int (nI i)] [] := by
  refine lw_aload C (i := 1) (by decide +kernel) rfl ?_
  refine lw_arg C i 1 (by decide +kernel) (by decide +kernel) (by decide +kernel) (by decide +kernel) (by decide +kernel) rfl rfl (by omega) hL2 ?_
  refine lw_callI C (K := fun x ν => x = (sp_casts (xs (i + 1)) S).1 ∧ CS ν (sp_casts (xs (i + 1)) S).2 ∧ hiE μ ν) (as := [.int (xs (i + 1))]) (i := 120) (w := 733) (o := 0) (ci := 7) (d := 20) rfl (by decide +kernel) (by decide +kernel) rfl (by decide +kernel) (by omega) (by simp [Value.category]) (c_casts (by omega) hC (fun ν h1 h2 => ⟨rfl, h1, h2⟩)) (fun x ν1 hx => ?_)
  obtain ⟨rfl, hC1, hh1⟩ := hx
  have hM1 := hM.hi hh1
  refine lw_aload C (i := 2) (by decide +kernel) rfl ?_
  refine lw_arg C i 1 (by decide +kernel) (by decide +kernel) (by decide +kernel) (by decide +kernel) (by decide +kernel) rfl rfl (by omega) hL2 ?_
  refine lw_callI C (K := fun x ν => x = (sp_casts (xs (i + 1)) S).1 ∧ MS ν (sp_casts (xs (i + 1)) S).2 ∧ loE ν1 ν) (as := [.int (xs (i + 1))]) (i := 123) (w := 1279) (o := 160) (ci := 8) (d := 20) rfl (by decide +kernel) (by decide +kernel) rfl (by decide +kernel) (by omega) (by simp [Value.category]) (m_casts (by omega) hM1 (fun ν h1 h2 => ⟨rfl, h1, h2⟩)) (fun x ν2 hx => ?_)
  obtain ⟨rfl, hM2, hl2⟩ := hx
  refine lw_same C (off := 156) 1311 (by decide +kernel) rfl ?_
  exact k ν2 _ (hC1.lo hl2) hM2
theorem lw_k25 {p : Program} {l : Launch} {e : Env} {s : State} {m : MethodId} {below : List Frame} {meth : Method} {c : Code} {b L : Nat} {xs : Nat → Int32} {sk sv : Nat → Nat} {D : va_G} {cA : Nat → ClassId} {μ : mmMem} {S : aS} (C : lwC p s m meth c b L xs sk sv D cA) (hL2 : L ≤ 3584) (i : Nat) (hi : i + 7 ≤ L) (hC : CS μ S) (hM : MS μ S) (k : ∀ ν S', CS ν S' → MS ν S' → lwE p l e s m below meth c b D cA ν 1311 [.ref b, .ref (s.heap.size + 0), .ref (s.heap.size + 160), .int (nI i)] []) : lwE p l e s m below meth c b D cA μ 1160 [.ref b, .ref (s.heap.size + 0), .ref (s.heap.size + 160), .int (nI i)] [] := by
  refine lw_aload C (i := 1) (by decide +kernel) rfl ?_
  refine lw_arg C i 1 (by decide +kernel) (by decide +kernel) (by decide +kernel) (by decide +kernel) (by decide +kernel) rfl rfl (by omega) hL2 ?_
  refine lw_arg C i 2 (by decide +kernel) (by decide +kernel) (by decide +kernel) (by decide +kernel) (by decide +kernel) rfl rfl (by omega) hL2 ?_
  refine lw_callI C (K := fun x ν => x = (sp_cast (xs (i + 1)) (xs (i + 2)) S).1 ∧ CS ν (sp_cast (xs (i + 1)) (xs (i + 2)) S).2 ∧ hiE μ ν) (as := [.int (xs (i + 1)), .int (xs (i + 2))]) (i := 124) (w := 737) (o := 0) (ci := 7) (d := 20) rfl (by decide +kernel) (by decide +kernel) rfl (by decide +kernel) (by omega) (by simp [Value.category]) (c_cast (by omega) hC (fun ν h1 h2 => ⟨rfl, h1, h2⟩)) (fun x ν1 hx => ?_)
  obtain ⟨rfl, hC1, hh1⟩ := hx
  have hM1 := hM.hi hh1
  refine lw_aload C (i := 2) (by decide +kernel) rfl ?_
  refine lw_arg C i 1 (by decide +kernel) (by decide +kernel) (by decide +kernel) (by decide +kernel) (by decide +kernel) rfl rfl (by omega) hL2 ?_
  refine lw_arg C i 2 (by decide +kernel) (by decide +kernel) (by decide +kernel) (by decide +kernel) (by decide +kernel) rfl rfl (by omega) hL2 ?_
  refine lw_callI C (K := fun x ν => x = (sp_cast (xs (i + 1)) (xs (i + 2)) S).1 ∧ MS ν (sp_cast (xs (i + 1)) (xs (i + 2)) S).2 ∧ loE ν1 ν) (as := [.int (xs (i + 1)), .int (xs (i + 2))]) (i := 127) (w := 1283) (o := 160) (ci := 8) (d := 20) rfl (by decide +kernel) (by decide +kernel) rfl (by decide +kernel) (by omega) (by simp [Value.category]) (m_cast (by omega) hM1 (fun ν h1 h2 => ⟨rfl, h1, h2⟩)) (fun x ν2 hx => ?_)
  obtain ⟨rfl, hM2, hl2⟩ := hx
  refine lw_same C (off := 123) 1311 (by decide +kernel) rfl ?_
  exact k ν2 _ (hC1.lo hl2) hM2
theorem lw_k26 {p : Program} {l : Launch} {e : Env} {s : State} {m : MethodId} {below : List Frame} {meth : Method} {c : Code} {b L : Nat} {xs : Nat → Int32} {sk sv : Nat → Nat} {D : va_G} {cA : Nat → ClassId} {μ : mmMem} {S : aS} (C : lwC p s m meth c b L xs sk sv D cA) (hL2 : L ≤ 3584) (i : Nat) (hi : i + 7 ≤ L) (hC : CS μ S) (hM : MS μ S) (k : ∀ ν S', CS ν S' → MS ν S' → lwE p l e s m below meth c b D cA ν 1311 [.ref b, .ref (s.heap.size + 0), .ref (s.heap.size + 160), .int (nI i)] []) : lwE p l e s m below meth c b D cA μ 1193 [.ref b, .ref (s.heap.size + 0), .ref (s.heap.size + 160), .int (nI i)] [] := by
  refine lw_aload C (i := 1) (by decide +kernel) rfl ?_
  refine lw_arg C i 1 (by decide +kernel) (by decide +kernel) (by decide +kernel) (by decide +kernel) (by decide +kernel) rfl rfl (by omega) hL2 ?_
  refine lw_callI C (K := fun x ν => x = (sp_feed (xs (i + 1)) S).1 ∧ CS ν (sp_feed (xs (i + 1)) S).2 ∧ hiE μ ν) (as := [.int (xs (i + 1))]) (i := 128) (w := 745) (o := 0) (ci := 7) (d := 20) rfl (by decide +kernel) (by decide +kernel) rfl (by decide +kernel) (by omega) (by simp [Value.category]) (c_feed (by omega) hC (fun ν h1 h2 => ⟨rfl, h1, h2⟩)) (fun x ν1 hx => ?_)
  obtain ⟨rfl, hC1, hh1⟩ := hx
  have hM1 := hM.hi hh1
  refine lw_aload C (i := 2) (by decide +kernel) rfl ?_
  refine lw_arg C i 1 (by decide +kernel) (by decide +kernel) (by decide +kernel) (by decide +kernel) (by decide +kernel) rfl rfl (by omega) hL2 ?_
  refine lw_callI C (K := fun x ν => x = (sp_feed (xs (i + 1)) S).1 ∧ MS ν (sp_feed (xs (i + 1)) S).2 ∧ loE ν1 ν) (as := [.int (xs (i + 1))]) (i := 131) (w := 1287) (o := 160) (ci := 8) (d := 20) rfl (by decide +kernel) (by decide +kernel) rfl (by decide +kernel) (by omega) (by simp [Value.category]) (m_feed (by omega) hM1 (fun ν h1 h2 => ⟨rfl, h1, h2⟩)) (fun x ν2 hx => ?_)
  obtain ⟨rfl, hM2, hl2⟩ := hx
  refine lw_same C (off := 100) 1311 (by decide +kernel) rfl ?_
  exact k ν2 _ (hC1.lo hl2) hM2
theorem lw_k27 {p : Program} {l : Launch} {e : Env} {s : State} {m : MethodId} {below : List Frame} {meth : Method} {c : Code} {b L : Nat} {xs : Nat → Int32} {sk sv : Nat → Nat} {D : va_G} {cA : Nat → ClassId} {μ : mmMem} {S : aS} (C : lwC p s m meth c b L xs sk sv D cA) (hL2 : L ≤ 3584) (i : Nat) (hi : i + 7 ≤ L) (hC : CS μ S) (hM : MS μ S) (k : ∀ ν S', CS ν S' → MS ν S' → lwE p l e s m below meth c b D cA ν 1311 [.ref b, .ref (s.heap.size + 0), .ref (s.heap.size + 160), .int (nI i)] []) : lwE p l e s m below meth c b D cA μ 1216 [.ref b, .ref (s.heap.size + 0), .ref (s.heap.size + 160), .int (nI i)] [] := by
  refine lw_aload C (i := 1) (by decide +kernel) rfl ?_
  refine lw_callI C (K := fun x ν => x = (sp_read S).1 ∧ CS ν (sp_read S).2 ∧ hiE μ ν) (as := []) (i := 132) (w := 753) (o := 0) (ci := 7) (d := 20) rfl (by decide +kernel) (by decide +kernel) rfl (by decide +kernel) (by omega) (by simp [Value.category]) (c_read sc_strOK (by omega) hC (fun ν h1 h2 => ⟨rfl, h1, h2⟩)) (fun x ν1 hx => ?_)
  obtain ⟨rfl, hC1, hh1⟩ := hx
  have hM1 := hM.hi hh1
  refine lw_aload C (i := 2) (by decide +kernel) rfl ?_
  refine lw_callI C (K := fun x ν => x = (sp_read S).1 ∧ MS ν (sp_read S).2 ∧ loE ν1 ν) (as := []) (i := 136) (w := 1292) (o := 160) (ci := 8) (d := 20) rfl (by decide +kernel) (by decide +kernel) rfl (by decide +kernel) (by omega) (by simp [Value.category]) (m_read sc_ixOK (by omega) hM1 (fun ν h1 h2 => ⟨rfl, h1, h2⟩)) (fun x ν2 hx => ?_)
  obtain ⟨rfl, hM2, hl2⟩ := hx
  refine lw_same C (off := 87) 1311 (by decide +kernel) rfl ?_
  exact k ν2 _ (hC1.lo hl2) hM2
theorem lw_k28 {p : Program} {l : Launch} {e : Env} {s : State} {m : MethodId} {below : List Frame} {meth : Method} {c : Code} {b L : Nat} {xs : Nat → Int32} {sk sv : Nat → Nat} {D : va_G} {cA : Nat → ClassId} {μ : mmMem} {S : aS} (C : lwC p s m meth c b L xs sk sv D cA) (hL2 : L ≤ 3584) (i : Nat) (hi : i + 7 ≤ L) (hC : CS μ S) (hM : MS μ S) (k : ∀ ν S', CS ν S' → MS ν S' → lwE p l e s m below meth c b D cA ν 1311 [.ref b, .ref (s.heap.size + 0), .ref (s.heap.size + 160), .int (nI i)] []) : lwE p l e s m below meth c b D cA μ 1229 [.ref b, .ref (s.heap.size + 0), .ref (s.heap.size + 160), .int (nI i)] [] := by
  refine lw_aload C (i := 1) (by decide +kernel) rfl ?_
  refine lw_arg C i 1 (by decide +kernel) (by decide +kernel) (by decide +kernel) (by decide +kernel) (by decide +kernel) rfl rfl (by omega) hL2 ?_
  refine lw_arg C i 2 (by decide +kernel) (by decide +kernel) (by decide +kernel) (by decide +kernel) (by decide +kernel) rfl rfl (by omega) hL2 ?_
  refine lw_callI C (K := fun x ν => x = (sp_spelled (xs (i + 1)) (xs (i + 2)) S).1 ∧ CS ν (sp_spelled (xs (i + 1)) (xs (i + 2)) S).2 ∧ hiE μ ν) (as := [.int (xs (i + 1)), .int (xs (i + 2))]) (i := 137) (w := 852) (o := 0) (ci := 7) (d := 20) rfl (by decide +kernel) (by decide +kernel) rfl (by decide +kernel) (by omega) (by simp [Value.category]) (c_spelled sc_strOK (by omega) hC (fun ν h1 h2 => ⟨rfl, h1, h2⟩)) (fun x ν1 hx => ?_)
  obtain ⟨rfl, hC1, hh1⟩ := hx
  have hM1 := hM.hi hh1
  refine lw_aload C (i := 2) (by decide +kernel) rfl ?_
  refine lw_arg C i 1 (by decide +kernel) (by decide +kernel) (by decide +kernel) (by decide +kernel) (by decide +kernel) rfl rfl (by omega) hL2 ?_
  refine lw_arg C i 2 (by decide +kernel) (by decide +kernel) (by decide +kernel) (by decide +kernel) (by decide +kernel) rfl rfl (by omega) hL2 ?_
  refine lw_callI C (K := fun x ν => x = (sp_spelled (xs (i + 1)) (xs (i + 2)) S).1 ∧ MS ν (sp_spelled (xs (i + 1)) (xs (i + 2)) S).2 ∧ loE ν1 ν) (as := [.int (xs (i + 1)), .int (xs (i + 2))]) (i := 140) (w := 1384) (o := 160) (ci := 8) (d := 20) rfl (by decide +kernel) (by decide +kernel) rfl (by decide +kernel) (by omega) (by simp [Value.category]) (m_spelled sc_strOK (by omega) hM1 (fun ν h1 h2 => ⟨rfl, h1, h2⟩)) (fun x ν2 hx => ?_)
  obtain ⟨rfl, hM2, hl2⟩ := hx
  refine lw_same C (off := 54) 1311 (by decide +kernel) rfl ?_
  exact k ν2 _ (hC1.lo hl2) hM2
theorem lw_k29 {p : Program} {l : Launch} {e : Env} {s : State} {m : MethodId} {below : List Frame} {meth : Method} {c : Code} {b L : Nat} {xs : Nat → Int32} {sk sv : Nat → Nat} {D : va_G} {cA : Nat → ClassId} {μ : mmMem} {S : aS} (C : lwC p s m meth c b L xs sk sv D cA) (hL2 : L ≤ 3584) (i : Nat) (hi : i + 7 ≤ L) (hC : CS μ S) (hM : MS μ S) (k : ∀ ν S', CS ν S' → MS ν S' → lwE p l e s m below meth c b D cA ν 1311 [.ref b, .ref (s.heap.size + 0), .ref (s.heap.size + 160), .int (nI i)] []) : lwE p l e s m below meth c b D cA μ 1262 [.ref b, .ref (s.heap.size + 0), .ref (s.heap.size + 160), .int (nI i)] [] := by
  refine lw_aload C (i := 1) (by decide +kernel) rfl ?_
  refine lw_callI C (K := fun x ν => x = (sp_image S).1 ∧ CS ν (sp_image S).2 ∧ hiE μ ν) (as := []) (i := 141) (w := 903) (o := 0) (ci := 7) (d := 20) rfl (by decide +kernel) (by decide +kernel) rfl (by decide +kernel) (by omega) (by simp [Value.category]) (c_image (by omega) hC (fun ν h1 h2 => ⟨rfl, h1, h2⟩)) (fun x ν1 hx => ?_)
  obtain ⟨rfl, hC1, hh1⟩ := hx
  have hM1 := hM.hi hh1
  refine lw_aload C (i := 2) (by decide +kernel) rfl ?_
  refine lw_callI C (K := fun x ν => x = (sp_image S).1 ∧ MS ν (sp_image S).2 ∧ loE ν1 ν) (as := []) (i := 144) (w := 1401) (o := 160) (ci := 8) (d := 20) rfl (by decide +kernel) (by decide +kernel) rfl (by decide +kernel) (by omega) (by simp [Value.category]) (m_image (by omega) hM1 (fun ν h1 h2 => ⟨rfl, h1, h2⟩)) (fun x ν2 hx => ?_)
  obtain ⟨rfl, hM2, hl2⟩ := hx
  refine lw_same C (off := 41) 1311 (by decide +kernel) rfl ?_
  exact k ν2 _ (hC1.lo hl2) hM2
theorem lw_k30 {p : Program} {l : Launch} {e : Env} {s : State} {m : MethodId} {below : List Frame} {meth : Method} {c : Code} {b L : Nat} {xs : Nat → Int32} {sk sv : Nat → Nat} {D : va_G} {cA : Nat → ClassId} {μ : mmMem} {S : aS} (C : lwC p s m meth c b L xs sk sv D cA) (hL2 : L ≤ 3584) (i : Nat) (hi : i + 7 ≤ L) (hC : CS μ S) (hM : MS μ S) (k : ∀ ν S', CS ν S' → MS ν S' → lwE p l e s m below meth c b D cA ν 1311 [.ref b, .ref (s.heap.size + 0), .ref (s.heap.size + 160), .int (nI i)] []) : lwE p l e s m below meth c b D cA μ 1275 [.ref b, .ref (s.heap.size + 0), .ref (s.heap.size + 160), .int (nI i)] [] := by
  refine lw_aload C (i := 1) (by decide +kernel) rfl ?_
  refine lw_callI C (K := fun x ν => x = (sp_undo S).1 ∧ CS ν (sp_undo S).2 ∧ hiE μ ν) (as := []) (i := 145) (w := 922) (o := 0) (ci := 7) (d := 20) rfl (by decide +kernel) (by decide +kernel) rfl (by decide +kernel) (by omega) (by simp [Value.category]) (c_undo (by omega) hC (fun ν h1 h2 => ⟨rfl, h1, h2⟩)) (fun x ν1 hx => ?_)
  obtain ⟨rfl, hC1, hh1⟩ := hx
  have hM1 := hM.hi hh1
  refine lw_aload C (i := 2) (by decide +kernel) rfl ?_
  refine lw_callI C (K := fun x ν => x = (sp_undo S).1 ∧ MS ν (sp_undo S).2 ∧ loE ν1 ν) (as := []) (i := 148) (w := 1405) (o := 160) (ci := 8) (d := 20) rfl (by decide +kernel) (by decide +kernel) rfl (by decide +kernel) (by omega) (by simp [Value.category]) (m_undo (by omega) hM1 (fun ν h1 h2 => ⟨rfl, h1, h2⟩)) (fun x ν2 hx => ?_)
  obtain ⟨rfl, hM2, hl2⟩ := hx
  refine lw_same C (off := 28) 1311 (by decide +kernel) rfl ?_
  exact k ν2 _ (hC1.lo hl2) hM2
theorem lw_k31 {p : Program} {l : Launch} {e : Env} {s : State} {m : MethodId} {below : List Frame} {meth : Method} {c : Code} {b L : Nat} {xs : Nat → Int32} {sk sv : Nat → Nat} {D : va_G} {cA : Nat → ClassId} {μ : mmMem} {S : aS} (C : lwC p s m meth c b L xs sk sv D cA) (hL2 : L ≤ 3584) (i : Nat) (hi : i + 7 ≤ L) (hC : CS μ S) (hM : MS μ S) (k : ∀ ν S', CS ν S' → MS ν S' → lwE p l e s m below meth c b D cA ν 1311 [.ref b, .ref (s.heap.size + 0), .ref (s.heap.size + 160), .int (nI i)] []) : lwE p l e s m below meth c b D cA μ 1288 [.ref b, .ref (s.heap.size + 0), .ref (s.heap.size + 160), .int (nI i)] [] := by
  refine lw_aload C (i := 1) (by decide +kernel) rfl ?_
  refine lw_arg C i 1 (by decide +kernel) (by decide +kernel) (by decide +kernel) (by decide +kernel) (by decide +kernel) rfl rfl (by omega) hL2 ?_
  refine lw_callI C (K := fun x ν => x = (sp_count (xs (i + 1)) S).1 ∧ CS ν (sp_count (xs (i + 1)) S).2 ∧ hiE μ ν) (as := [.int (xs (i + 1))]) (i := 149) (w := 926) (o := 0) (ci := 7) (d := 20) rfl (by decide +kernel) (by decide +kernel) rfl (by decide +kernel) (by omega) (by simp [Value.category]) (c_count (by omega) hC (fun ν h1 h2 => ⟨rfl, h1, h2⟩)) (fun x ν1 hx => ?_)
  obtain ⟨rfl, hC1, hh1⟩ := hx
  have hM1 := hM.hi hh1
  refine lw_aload C (i := 2) (by decide +kernel) rfl ?_
  refine lw_arg C i 1 (by decide +kernel) (by decide +kernel) (by decide +kernel) (by decide +kernel) (by decide +kernel) rfl rfl (by omega) hL2 ?_
  refine lw_callI C (K := fun x ν => x = (sp_count (xs (i + 1)) S).1 ∧ ν = ν1) (as := [.int (xs (i + 1))]) (i := 152) (w := 1409) (o := 160) (ci := 8) (d := 20) rfl (by decide +kernel) (by decide +kernel) rfl (by decide +kernel) (by omega) (by simp [Value.category]) (m_count (by omega) hM1 ⟨rfl, rfl⟩) (fun x ν2 hx => ?_)
  obtain ⟨rfl, rfl⟩ := hx
  refine lw_same C (off := 5) 1311 (by decide +kernel) rfl ?_
  exact k ν2 _ hC1 hM1
