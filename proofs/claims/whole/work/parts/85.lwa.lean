/-! ===== the law's cases 0 to 7 ===== -/
theorem lw_k0 {p : Program} {l : Launch} {e : Env} {s : State} {m : MethodId} {below : List Frame} {meth : Method} {c : Code} {b L : Nat} {xs : Nat → Int32} {sk sv : Nat → Nat} {D : va_G} {cA : Nat → ClassId} {μ : mmMem} {S : aS} (C : lwC p s m meth c b L xs sk sv D cA) (hL2 : L ≤ 3584) (i : Nat) (hi : i + 7 ≤ L) (hC : CS μ S) (hM : MS μ S) (k : ∀ ν S', CS ν S' → MS ν S' → lwE p l e s m below meth c b D cA ν 1311 [.ref b, .ref (s.heap.size + 0), .ref (s.heap.size + 160), .int (nI i)] []) : lwE p l e s m below meth c b D cA μ 176 [.ref b, .ref (s.heap.size + 0), .ref (s.heap.size + 160), .int (nI i)] [] := by
  refine lw_aload C (i := 1) (by decide +kernel) rfl ?_
  refine lw_arg C i 1 (by decide +kernel) (by decide +kernel) (by decide +kernel) (by decide +kernel) (by decide +kernel) rfl rfl (by omega) hL2 ?_
  refine lw_callI C (K := fun x ν => x = (sp_size (xs (i + 1)) S).1 ∧ CS ν (sp_size (xs (i + 1)) S).2 ∧ hiE μ ν) (as := [.int (xs (i + 1))]) (i := 13) (w := 326) (o := 0) (ci := 7) (d := 20) rfl (by decide +kernel) (by decide +kernel) rfl (by decide +kernel) (by omega) (by simp [Value.category]) (c_size (by omega) hC (fun ν h1 h2 => ⟨rfl, h1, h2⟩)) (fun x ν1 hx => ?_)
  obtain ⟨rfl, hC1, hh1⟩ := hx
  have hM1 := hM.hi hh1
  refine lw_aload C (i := 2) (by decide +kernel) rfl ?_
  refine lw_arg C i 1 (by decide +kernel) (by decide +kernel) (by decide +kernel) (by decide +kernel) (by decide +kernel) rfl rfl (by omega) hL2 ?_
  refine lw_callI C (K := fun x ν => x = (sp_size (xs (i + 1)) S).1 ∧ MS ν (sp_size (xs (i + 1)) S).2 ∧ loE ν1 ν) (as := [.int (xs (i + 1))]) (i := 17) (w := 994) (o := 160) (ci := 8) (d := 20) rfl (by decide +kernel) (by decide +kernel) rfl (by decide +kernel) (by omega) (by simp [Value.category]) (m_size (by omega) hM1 (fun ν h1 h2 => ⟨rfl, h1, h2⟩)) (fun x ν2 hx => ?_)
  obtain ⟨rfl, hM2, hl2⟩ := hx
  refine lw_same C (off := 1117) 1311 (by decide +kernel) rfl ?_
  exact k ν2 _ (hC1.lo hl2) hM2
theorem lw_k1 {p : Program} {l : Launch} {e : Env} {s : State} {m : MethodId} {below : List Frame} {meth : Method} {c : Code} {b L : Nat} {xs : Nat → Int32} {sk sv : Nat → Nat} {D : va_G} {cA : Nat → ClassId} {μ : mmMem} {S : aS} (C : lwC p s m meth c b L xs sk sv D cA) (hL2 : L ≤ 3584) (i : Nat) (hi : i + 7 ≤ L) (hC : CS μ S) (hM : MS μ S) (k : ∀ ν S', CS ν S' → MS ν S' → lwE p l e s m below meth c b D cA ν 1311 [.ref b, .ref (s.heap.size + 0), .ref (s.heap.size + 160), .int (nI i)] []) : lwE p l e s m below meth c b D cA μ 199 [.ref b, .ref (s.heap.size + 0), .ref (s.heap.size + 160), .int (nI i)] [] := by
  refine lw_aload C (i := 1) (by decide +kernel) rfl ?_
  refine lw_arg C i 1 (by decide +kernel) (by decide +kernel) (by decide +kernel) (by decide +kernel) (by decide +kernel) rfl rfl (by omega) hL2 ?_
  refine lw_callI C (K := fun x ν => x = (sp_column (xs (i + 1)) S).1 ∧ CS ν (sp_column (xs (i + 1)) S).2 ∧ hiE μ ν) (as := [.int (xs (i + 1))]) (i := 18) (w := 346) (o := 0) (ci := 7) (d := 20) rfl (by decide +kernel) (by decide +kernel) rfl (by decide +kernel) (by omega) (by simp [Value.category]) (c_column (by omega) hC (fun ν h1 h2 => ⟨rfl, h1, h2⟩)) (fun x ν1 hx => ?_)
  obtain ⟨rfl, hC1, hh1⟩ := hx
  have hM1 := hM.hi hh1
  refine lw_aload C (i := 2) (by decide +kernel) rfl ?_
  refine lw_arg C i 1 (by decide +kernel) (by decide +kernel) (by decide +kernel) (by decide +kernel) (by decide +kernel) rfl rfl (by omega) hL2 ?_
  refine lw_callI C (K := fun x ν => x = (sp_column (xs (i + 1)) S).1 ∧ MS ν (sp_column (xs (i + 1)) S).2 ∧ loE ν1 ν) (as := [.int (xs (i + 1))]) (i := 21) (w := 1017) (o := 160) (ci := 8) (d := 20) rfl (by decide +kernel) (by decide +kernel) rfl (by decide +kernel) (by omega) (by simp [Value.category]) (m_column (by omega) hM1 (fun ν h1 h2 => ⟨rfl, h1, h2⟩)) (fun x ν2 hx => ?_)
  obtain ⟨rfl, hM2, hl2⟩ := hx
  refine lw_same C (off := 1094) 1311 (by decide +kernel) rfl ?_
  exact k ν2 _ (hC1.lo hl2) hM2
theorem lw_k2 {p : Program} {l : Launch} {e : Env} {s : State} {m : MethodId} {below : List Frame} {meth : Method} {c : Code} {b L : Nat} {xs : Nat → Int32} {sk sv : Nat → Nat} {D : va_G} {cA : Nat → ClassId} {μ : mmMem} {S : aS} (C : lwC p s m meth c b L xs sk sv D cA) (hL2 : L ≤ 3584) (i : Nat) (hi : i + 7 ≤ L) (hC : CS μ S) (hM : MS μ S) (k : ∀ ν S', CS ν S' → MS ν S' → lwE p l e s m below meth c b D cA ν 1311 [.ref b, .ref (s.heap.size + 0), .ref (s.heap.size + 160), .int (nI i)] []) : lwE p l e s m below meth c b D cA μ 222 [.ref b, .ref (s.heap.size + 0), .ref (s.heap.size + 160), .int (nI i)] [] := by
  refine lw_aload C (i := 1) (by decide +kernel) rfl ?_
  refine lw_arg C i 1 (by decide +kernel) (by decide +kernel) (by decide +kernel) (by decide +kernel) (by decide +kernel) rfl rfl (by omega) hL2 ?_
  refine lw_callI C (K := fun x ν => x = (sp_drop (xs (i + 1)) S).1 ∧ CS ν (sp_drop (xs (i + 1)) S).2 ∧ hiE μ ν) (as := [.int (xs (i + 1))]) (i := 22) (w := 362) (o := 0) (ci := 7) (d := 20) rfl (by decide +kernel) (by decide +kernel) rfl (by decide +kernel) (by omega) (by simp [Value.category]) (c_drop (by omega) hC (fun ν h1 h2 => ⟨rfl, h1, h2⟩)) (fun x ν1 hx => ?_)
  obtain ⟨rfl, hC1, hh1⟩ := hx
  have hM1 := hM.hi hh1
  refine lw_aload C (i := 2) (by decide +kernel) rfl ?_
  refine lw_arg C i 1 (by decide +kernel) (by decide +kernel) (by decide +kernel) (by decide +kernel) (by decide +kernel) rfl rfl (by omega) hL2 ?_
  refine lw_callI C (K := fun x ν => x = (sp_drop (xs (i + 1)) S).1 ∧ MS ν (sp_drop (xs (i + 1)) S).2 ∧ loE ν1 ν) (as := [.int (xs (i + 1))]) (i := 25) (w := 1026) (o := 160) (ci := 8) (d := 20) rfl (by decide +kernel) (by decide +kernel) rfl (by decide +kernel) (by omega) (by simp [Value.category]) (m_drop (by omega) hM1 (fun ν h1 h2 => ⟨rfl, h1, h2⟩)) (fun x ν2 hx => ?_)
  obtain ⟨rfl, hM2, hl2⟩ := hx
  refine lw_same C (off := 1071) 1311 (by decide +kernel) rfl ?_
  exact k ν2 _ (hC1.lo hl2) hM2
theorem lw_k3 {p : Program} {l : Launch} {e : Env} {s : State} {m : MethodId} {below : List Frame} {meth : Method} {c : Code} {b L : Nat} {xs : Nat → Int32} {sk sv : Nat → Nat} {D : va_G} {cA : Nat → ClassId} {μ : mmMem} {S : aS} (C : lwC p s m meth c b L xs sk sv D cA) (hL2 : L ≤ 3584) (i : Nat) (hi : i + 7 ≤ L) (hC : CS μ S) (hM : MS μ S) (k : ∀ ν S', CS ν S' → MS ν S' → lwE p l e s m below meth c b D cA ν 1311 [.ref b, .ref (s.heap.size + 0), .ref (s.heap.size + 160), .int (nI i)] []) : lwE p l e s m below meth c b D cA μ 245 [.ref b, .ref (s.heap.size + 0), .ref (s.heap.size + 160), .int (nI i)] [] := by
  refine lw_aload C (i := 1) (by decide +kernel) rfl ?_
  refine lw_arg C i 1 (by decide +kernel) (by decide +kernel) (by decide +kernel) (by decide +kernel) (by decide +kernel) rfl rfl (by omega) hL2 ?_
  refine lw_callI C (K := fun x ν => x = (sp_kindOf (xs (i + 1)) S).1 ∧ CS ν (sp_kindOf (xs (i + 1)) S).2 ∧ hiE μ ν) (as := [.int (xs (i + 1))]) (i := 26) (w := 374) (o := 0) (ci := 7) (d := 20) rfl (by decide +kernel) (by decide +kernel) rfl (by decide +kernel) (by omega) (by simp [Value.category]) (c_kindOf (by omega) hC (fun ν h1 h2 => ⟨rfl, h1, h2⟩)) (fun x ν1 hx => ?_)
  obtain ⟨rfl, hC1, hh1⟩ := hx
  have hM1 := hM.hi hh1
  refine lw_aload C (i := 2) (by decide +kernel) rfl ?_
  refine lw_arg C i 1 (by decide +kernel) (by decide +kernel) (by decide +kernel) (by decide +kernel) (by decide +kernel) rfl rfl (by omega) hL2 ?_
  refine lw_callI C (K := fun x ν => x = (sp_kindOf (xs (i + 1)) S).1 ∧ MS ν (sp_kindOf (xs (i + 1)) S).2 ∧ loE ν1 ν) (as := [.int (xs (i + 1))]) (i := 29) (w := 1039) (o := 160) (ci := 8) (d := 20) rfl (by decide +kernel) (by decide +kernel) rfl (by decide +kernel) (by omega) (by simp [Value.category]) (m_kindOf (by omega) hM1 (fun ν h1 h2 => ⟨rfl, h1, h2⟩)) (fun x ν2 hx => ?_)
  obtain ⟨rfl, hM2, hl2⟩ := hx
  refine lw_same C (off := 1048) 1311 (by decide +kernel) rfl ?_
  exact k ν2 _ (hC1.lo hl2) hM2
theorem lw_k4 {p : Program} {l : Launch} {e : Env} {s : State} {m : MethodId} {below : List Frame} {meth : Method} {c : Code} {b L : Nat} {xs : Nat → Int32} {sk sv : Nat → Nat} {D : va_G} {cA : Nat → ClassId} {μ : mmMem} {S : aS} (C : lwC p s m meth c b L xs sk sv D cA) (hL2 : L ≤ 3584) (i : Nat) (hi : i + 7 ≤ L) (hC : CS μ S) (hM : MS μ S) (k : ∀ ν S', CS ν S' → MS ν S' → lwE p l e s m below meth c b D cA ν 1311 [.ref b, .ref (s.heap.size + 0), .ref (s.heap.size + 160), .int (nI i)] []) : lwE p l e s m below meth c b D cA μ 268 [.ref b, .ref (s.heap.size + 0), .ref (s.heap.size + 160), .int (nI i)] [] := by
  refine lw_aload C (i := 1) (by decide +kernel) rfl ?_
  refine lw_arg C i 1 (by decide +kernel) (by decide +kernel) (by decide +kernel) (by decide +kernel) (by decide +kernel) rfl rfl (by omega) hL2 ?_
  refine lw_arg C i 2 (by decide +kernel) (by decide +kernel) (by decide +kernel) (by decide +kernel) (by decide +kernel) rfl rfl (by omega) hL2 ?_
  refine lw_arg C i 3 (by decide +kernel) (by decide +kernel) (by decide +kernel) (by decide +kernel) (by decide +kernel) rfl rfl (by omega) hL2 ?_
  refine lw_callI C (K := fun x ν => x = (sp_ask (xs (i + 1)) (xs (i + 2)) (xs (i + 3)) S).1 ∧ CS ν (sp_ask (xs (i + 1)) (xs (i + 2)) (xs (i + 3)) S).2 ∧ hiE μ ν) (as := [.int (xs (i + 1)), .int (xs (i + 2)), .int (xs (i + 3))]) (i := 30) (w := 378) (o := 0) (ci := 7) (d := 20) rfl (by decide +kernel) (by decide +kernel) rfl (by decide +kernel) (by omega) (by simp [Value.category]) (c_ask (by omega) hC (fun ν h1 h2 => ⟨rfl, h1, h2⟩)) (fun x ν1 hx => ?_)
  obtain ⟨rfl, hC1, hh1⟩ := hx
  have hM1 := hM.hi hh1
  refine lw_aload C (i := 2) (by decide +kernel) rfl ?_
  refine lw_arg C i 1 (by decide +kernel) (by decide +kernel) (by decide +kernel) (by decide +kernel) (by decide +kernel) rfl rfl (by omega) hL2 ?_
  refine lw_arg C i 2 (by decide +kernel) (by decide +kernel) (by decide +kernel) (by decide +kernel) (by decide +kernel) rfl rfl (by omega) hL2 ?_
  refine lw_arg C i 3 (by decide +kernel) (by decide +kernel) (by decide +kernel) (by decide +kernel) (by decide +kernel) rfl rfl (by omega) hL2 ?_
  refine lw_callI C (K := fun x ν => x = (sp_ask (xs (i + 1)) (xs (i + 2)) (xs (i + 3)) S).1 ∧ MS ν (sp_ask (xs (i + 1)) (xs (i + 2)) (xs (i + 3)) S).2 ∧ loE ν1 ν) (as := [.int (xs (i + 1)), .int (xs (i + 2)), .int (xs (i + 3))]) (i := 34) (w := 1043) (o := 160) (ci := 8) (d := 20) rfl (by decide +kernel) (by decide +kernel) rfl (by decide +kernel) (by omega) (by simp [Value.category]) (m_ask (by omega) hM1 (fun ν h1 h2 => ⟨rfl, h1, h2⟩)) (fun x ν2 hx => ?_)
  obtain ⟨rfl, hM2, hl2⟩ := hx
  refine lw_same C (off := 1005) 1311 (by decide +kernel) rfl ?_
  exact k ν2 _ (hC1.lo hl2) hM2
theorem lw_k5 {p : Program} {l : Launch} {e : Env} {s : State} {m : MethodId} {below : List Frame} {meth : Method} {c : Code} {b L : Nat} {xs : Nat → Int32} {sk sv : Nat → Nat} {D : va_G} {cA : Nat → ClassId} {μ : mmMem} {S : aS} (C : lwC p s m meth c b L xs sk sv D cA) (hL2 : L ≤ 3584) (i : Nat) (hi : i + 7 ≤ L) (hC : CS μ S) (hM : MS μ S) (k : ∀ ν S', CS ν S' → MS ν S' → lwE p l e s m below meth c b D cA ν 1311 [.ref b, .ref (s.heap.size + 0), .ref (s.heap.size + 160), .int (nI i)] []) : lwE p l e s m below meth c b D cA μ 311 [.ref b, .ref (s.heap.size + 0), .ref (s.heap.size + 160), .int (nI i)] [] := by
  refine lw_aload C (i := 1) (by decide +kernel) rfl ?_
  refine lw_callJ C (K := fun x ν => x = S.2.2.1 ∧ ν = μ) (as := []) (i := 35) (w := 429) (o := 0) (ci := 7) (d := 20) rfl (by decide +kernel) (by decide +kernel) rfl (by decide +kernel) (by omega) (by simp [Value.category]) (c_got (by omega) hC ⟨rfl, rfl⟩) (fun x ν1 hx => ?_)
  obtain ⟨rfl, rfl⟩ := hx
  have hM1 := hM
  refine lw_aload C (i := 2) (by decide +kernel) rfl ?_
  refine lw_callJ C (K := fun x ν => x = S.2.2.1 ∧ ν = ν1) (as := []) (i := 39) (w := 1107) (o := 160) (ci := 8) (d := 20) rfl (by decide +kernel) (by decide +kernel) rfl (by decide +kernel) (by omega) (by simp [Value.category]) (m_got (by omega) hM1 ⟨rfl, rfl⟩) (fun x ν2 hx => ?_)
  obtain ⟨rfl, rfl⟩ := hx
  refine lw_sameJ C (off := 991) 1311 (by decide +kernel) (by decide +kernel) rfl ?_
  exact k _ S hC hM
theorem lw_k6 {p : Program} {l : Launch} {e : Env} {s : State} {m : MethodId} {below : List Frame} {meth : Method} {c : Code} {b L : Nat} {xs : Nat → Int32} {sk sv : Nat → Nat} {D : va_G} {cA : Nat → ClassId} {μ : mmMem} {S : aS} (C : lwC p s m meth c b L xs sk sv D cA) (hL2 : L ≤ 3584) (i : Nat) (hi : i + 7 ≤ L) (hC : CS μ S) (hM : MS μ S) (k : ∀ ν S', CS ν S' → MS ν S' → lwE p l e s m below meth c b D cA ν 1311 [.ref b, .ref (s.heap.size + 0), .ref (s.heap.size + 160), .int (nI i)] []) : lwE p l e s m below meth c b D cA μ 325 [.ref b, .ref (s.heap.size + 0), .ref (s.heap.size + 160), .int (nI i)] [] := by
  refine lw_aload C (i := 1) (by decide +kernel) rfl ?_
  refine lw_arg C i 1 (by decide +kernel) (by decide +kernel) (by decide +kernel) (by decide +kernel) (by decide +kernel) rfl rfl (by omega) hL2 ?_
  refine lw_arg C i 2 (by decide +kernel) (by decide +kernel) (by decide +kernel) (by decide +kernel) (by decide +kernel) rfl rfl (by omega) hL2 ?_
  refine lw_arg C i 3 (by decide +kernel) (by decide +kernel) (by decide +kernel) (by decide +kernel) (by decide +kernel) rfl rfl (by omega) hL2 ?_
  refine lw_arg C i 4 (by decide +kernel) (by decide +kernel) (by decide +kernel) (by decide +kernel) (by decide +kernel) rfl rfl (by omega) hL2 ?_
  refine lw_up C (by decide +kernel) (by decide +kernel) (by decide +kernel) ?_
  refine lw_arg C i 5 (by decide +kernel) (by decide +kernel) (by decide +kernel) (by decide +kernel) (by decide +kernel) rfl rfl (by omega) hL2 ?_
  refine lw_low C (by decide +kernel) (by decide +kernel) (by decide +kernel) (by decide +kernel) ?_
  refine lw_callI C (K := fun x ν => x = (sp_write (xs (i + 1)) (xs (i + 2)) (xs (i + 3)) (lwJ (xs (i + 4)) (xs (i + 5))) S).1 ∧ CS ν (sp_write (xs (i + 1)) (xs (i + 2)) (xs (i + 3)) (lwJ (xs (i + 4)) (xs (i + 5))) S).2 ∧ hiE μ ν) (as := [.int (xs (i + 1)), .int (xs (i + 2)), .int (xs (i + 3)), .long (lwJ (xs (i + 4)) (xs (i + 5)))]) (i := 42) (w := 433) (o := 0) (ci := 7) (d := 20) rfl (by decide +kernel) (by decide +kernel) rfl (by decide +kernel) (by omega) (by simp [Value.category]) (c_write (by omega) hC (fun ν h1 h2 => ⟨rfl, h1, h2⟩)) (fun x ν1 hx => ?_)
  obtain ⟨rfl, hC1, hh1⟩ := hx
  have hM1 := hM.hi hh1
  refine lw_aload C (i := 2) (by decide +kernel) rfl ?_
  refine lw_arg C i 1 (by decide +kernel) (by decide +kernel) (by decide +kernel) (by decide +kernel) (by decide +kernel) rfl rfl (by omega) hL2 ?_
  refine lw_arg C i 2 (by decide +kernel) (by decide +kernel) (by decide +kernel) (by decide +kernel) (by decide +kernel) rfl rfl (by omega) hL2 ?_
  refine lw_arg C i 3 (by decide +kernel) (by decide +kernel) (by decide +kernel) (by decide +kernel) (by decide +kernel) rfl rfl (by omega) hL2 ?_
  refine lw_arg C i 4 (by decide +kernel) (by decide +kernel) (by decide +kernel) (by decide +kernel) (by decide +kernel) rfl rfl (by omega) hL2 ?_
  refine lw_up C (by decide +kernel) (by decide +kernel) (by decide +kernel) ?_
  refine lw_arg C i 5 (by decide +kernel) (by decide +kernel) (by decide +kernel) (by decide +kernel) (by decide +kernel) rfl rfl (by omega) hL2 ?_
  refine lw_low C (by decide +kernel) (by decide +kernel) (by decide +kernel) (by decide +kernel) ?_
  refine lw_callI C (K := fun x ν => x = (sp_write (xs (i + 1)) (xs (i + 2)) (xs (i + 3)) (lwJ (xs (i + 4)) (xs (i + 5))) S).1 ∧ MS ν (sp_write (xs (i + 1)) (xs (i + 2)) (xs (i + 3)) (lwJ (xs (i + 4)) (xs (i + 5))) S).2 ∧ loE ν1 ν) (as := [.int (xs (i + 1)), .int (xs (i + 2)), .int (xs (i + 3)), .long (lwJ (xs (i + 4)) (xs (i + 5)))]) (i := 46) (w := 1111) (o := 160) (ci := 8) (d := 20) rfl (by decide +kernel) (by decide +kernel) rfl (by decide +kernel) (by omega) (by simp [Value.category]) (m_write (by omega) hM1 (fun ν h1 h2 => ⟨rfl, h1, h2⟩)) (fun x ν2 hx => ?_)
  obtain ⟨rfl, hM2, hl2⟩ := hx
  refine lw_same C (off := 908) 1311 (by decide +kernel) rfl ?_
  exact k ν2 _ (hC1.lo hl2) hM2
theorem lw_k7 {p : Program} {l : Launch} {e : Env} {s : State} {m : MethodId} {below : List Frame} {meth : Method} {c : Code} {b L : Nat} {xs : Nat → Int32} {sk sv : Nat → Nat} {D : va_G} {cA : Nat → ClassId} {μ : mmMem} {S : aS} (C : lwC p s m meth c b L xs sk sv D cA) (hL2 : L ≤ 3584) (i : Nat) (hi : i + 7 ≤ L) (hC : CS μ S) (hM : MS μ S) (k : ∀ ν S', CS ν S' → MS ν S' → lwE p l e s m below meth c b D cA ν 1311 [.ref b, .ref (s.heap.size + 0), .ref (s.heap.size + 160), .int (nI i)] []) : lwE p l e s m below meth c b D cA μ 408 [.ref b, .ref (s.heap.size + 0), .ref (s.heap.size + 160), .int (nI i)] [] := by
  refine lw_aload C (i := 1) (by decide +kernel) rfl ?_
  refine lw_arg C i 1 (by decide +kernel) (by decide +kernel) (by decide +kernel) (by decide +kernel) (by decide +kernel) rfl rfl (by omega) hL2 ?_
  refine lw_arg C i 2 (by decide +kernel) (by decide +kernel) (by decide +kernel) (by decide +kernel) (by decide +kernel) rfl rfl (by omega) hL2 ?_
  refine lw_arg C i 3 (by decide +kernel) (by decide +kernel) (by decide +kernel) (by decide +kernel) (by decide +kernel) rfl rfl (by omega) hL2 ?_
  refine lw_arg C i 4 (by decide +kernel) (by decide +kernel) (by decide +kernel) (by decide +kernel) (by decide +kernel) rfl rfl (by omega) hL2 ?_
  refine lw_arg C i 5 (by decide +kernel) (by decide +kernel) (by decide +kernel) (by decide +kernel) (by decide +kernel) rfl rfl (by omega) hL2 ?_
  refine lw_callI C (K := fun x ν => x = (sp_bring (xs (i + 1)) (xs (i + 2)) (xs (i + 3)) (xs (i + 4)) (xs (i + 5)) S).1 ∧ CS ν (sp_bring (xs (i + 1)) (xs (i + 2)) (xs (i + 3)) (xs (i + 4)) (xs (i + 5)) S).2 ∧ hiE μ ν) (as := [.int (xs (i + 1)), .int (xs (i + 2)), .int (xs (i + 3)), .int (xs (i + 4)), .int (xs (i + 5))]) (i := 47) (w := 473) (o := 0) (ci := 7) (d := 20) rfl (by decide +kernel) (by decide +kernel) rfl (by decide +kernel) (by omega) (by simp [Value.category]) (c_bring (by omega) hC (fun ν h1 h2 => ⟨rfl, h1, h2⟩)) (fun x ν1 hx => ?_)
  obtain ⟨rfl, hC1, hh1⟩ := hx
  have hM1 := hM.hi hh1
  refine lw_aload C (i := 2) (by decide +kernel) rfl ?_
  refine lw_arg C i 1 (by decide +kernel) (by decide +kernel) (by decide +kernel) (by decide +kernel) (by decide +kernel) rfl rfl (by omega) hL2 ?_
  refine lw_arg C i 2 (by decide +kernel) (by decide +kernel) (by decide +kernel) (by decide +kernel) (by decide +kernel) rfl rfl (by omega) hL2 ?_
  refine lw_arg C i 3 (by decide +kernel) (by decide +kernel) (by decide +kernel) (by decide +kernel) (by decide +kernel) rfl rfl (by omega) hL2 ?_
  refine lw_arg C i 4 (by decide +kernel) (by decide +kernel) (by decide +kernel) (by decide +kernel) (by decide +kernel) rfl rfl (by omega) hL2 ?_
  refine lw_arg C i 5 (by decide +kernel) (by decide +kernel) (by decide +kernel) (by decide +kernel) (by decide +kernel) rfl rfl (by omega) hL2 ?_
  refine lw_callI C (K := fun x ν => x = (sp_bring (xs (i + 1)) (xs (i + 2)) (xs (i + 3)) (xs (i + 4)) (xs (i + 5)) S).1 ∧ MS ν (sp_bring (xs (i + 1)) (xs (i + 2)) (xs (i + 3)) (xs (i + 4)) (xs (i + 5)) S).2 ∧ loE ν1 ν) (as := [.int (xs (i + 1)), .int (xs (i + 2)), .int (xs (i + 3)), .int (xs (i + 4)), .int (xs (i + 5))]) (i := 51) (w := 1127) (o := 160) (ci := 8) (d := 20) rfl (by decide +kernel) (by decide +kernel) rfl (by decide +kernel) (by omega) (by simp [Value.category]) (m_bring (by omega) hM1 (fun ν h1 h2 => ⟨rfl, h1, h2⟩)) (fun x ν2 hx => ?_)
  obtain ⟨rfl, hM2, hl2⟩ := hx
  refine lw_same C (off := 845) 1311 (by decide +kernel) rfl ?_
  exact k ν2 _ (hC1.lo hl2) hM2
