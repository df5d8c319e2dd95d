/-! ===== the law's cases 16 to 23 ===== -/
theorem lw_k16 {p : Program} {l : Launch} {e : Env} {s : State} {m : MethodId} {below : List Frame} {meth : Method} {c : Code} {b L : Nat} {xs : Nat → Int32} {sk sv : Nat → Nat} {D : va_G} {cA : Nat → ClassId} {μ : mmMem} {S : aS} (C : lwC p s m meth c b L xs sk sv D cA) (hL2 : L ≤ 3584) (i : Nat) (hi : i + 7 ≤ L) (hC : CS μ S) (hM : MS μ S) (k : ∀ ν S', CS ν S' → MS ν S' → lwE p l e s m below meth c b D cA ν 1311 [.ref b, .ref (s.heap.size + 0), .ref (s.heap.size + 160), .int (nI i)] []) : lwE p l e s m below meth c b D cA μ 793 [.ref b, .ref (s.heap.size + 0), .ref (s.heap.size + 160), .int (nI i)] [] := by
  refine lw_aload C (i := 1) (by decide +kernel) rfl ?_
  refine lw_arg C i 1 (by decide +kernel) (by decide +kernel) (by decide +kernel) (by decide +kernel) (by decide +kernel) rfl rfl (by omega) hL2 ?_
  refine lw_arg C i 2 (by decide +kernel) (by decide +kernel) (by decide +kernel) (by decide +kernel) (by decide +kernel) rfl rfl (by omega) hL2 ?_
  refine lw_arg C i 3 (by decide +kernel) (by decide +kernel) (by decide +kernel) (by decide +kernel) (by decide +kernel) rfl rfl (by omega) hL2 ?_
  refine lw_arg C i 4 (by decide +kernel) (by decide +kernel) (by decide +kernel) (by decide +kernel) (by decide +kernel) rfl rfl (by omega) hL2 ?_
  refine lw_up C (by decide +kernel) (by decide +kernel) (by decide +kernel) ?_
  refine lw_arg C i 5 (by decide +kernel) (by decide +kernel) (by decide +kernel) (by decide +kernel) (by decide +kernel) rfl rfl (by omega) hL2 ?_
  refine lw_low C (by decide +kernel) (by decide +kernel) (by decide +kernel) (by decide +kernel) ?_
  refine lw_callI C (K := fun x ν => x = (sp_filter (xs (i + 1)) (xs (i + 2)) (xs (i + 3)) (lwJ (xs (i + 4)) (xs (i + 5))) S).1 ∧ CS ν (sp_filter (xs (i + 1)) (xs (i + 2)) (xs (i + 3)) (lwJ (xs (i + 4)) (xs (i + 5))) S).2 ∧ hiE μ ν) (as := [.int (xs (i + 1)), .int (xs (i + 2)), .int (xs (i + 3)), .long (lwJ (xs (i + 4)) (xs (i + 5)))]) (i := 87) (w := 626) (o := 0) (ci := 7) (d := 20) rfl (by decide +kernel) (by decide +kernel) rfl (by decide +kernel) (by omega) (by simp [Value.category]) (c_filter (by omega) hC (fun ν h1 h2 => ⟨rfl, h1, h2⟩)) (fun x ν1 hx => ?_)
  obtain ⟨rfl, hC1, hh1⟩ := hx
  have hM1 := hM.hi hh1
  refine lw_aload C (i := 2) (by decide +kernel) rfl ?_
  refine lw_arg C i 1 (by decide +kernel) (by decide +kernel) (by decide +kernel) (by decide +kernel) (by decide +kernel) rfl rfl (by omega) hL2 ?_
  refine lw_arg C i 2 (by decide +kernel) (by decide +kernel) (by decide +kernel) (by decide +kernel) (by decide +kernel) rfl rfl (by omega) hL2 ?_
  refine lw_arg C i 3 (by decide +kernel) (by decide +kernel) (by decide +kernel) (by decide +kernel) (by decide +kernel) rfl rfl (by omega) hL2 ?_
  refine lw_arg C i 4 (by decide +kernel) (by decide +kernel) (by decide +kernel) (by decide +kernel) (by decide +kernel) rfl rfl (by omega) hL2 ?_
  refine lw_up C (by decide +kernel) (by decide +kernel) (by decide +kernel) ?_
  refine lw_arg C i 5 (by decide +kernel) (by decide +kernel) (by decide +kernel) (by decide +kernel) (by decide +kernel) rfl rfl (by omega) hL2 ?_
  refine lw_low C (by decide +kernel) (by decide +kernel) (by decide +kernel) (by decide +kernel) ?_
  refine lw_callI C (K := fun x ν => x = (sp_filter (xs (i + 1)) (xs (i + 2)) (xs (i + 3)) (lwJ (xs (i + 4)) (xs (i + 5))) S).1 ∧ MS ν (sp_filter (xs (i + 1)) (xs (i + 2)) (xs (i + 3)) (lwJ (xs (i + 4)) (xs (i + 5))) S).2 ∧ loE ν1 ν) (as := [.int (xs (i + 1)), .int (xs (i + 2)), .int (xs (i + 3)), .long (lwJ (xs (i + 4)) (xs (i + 5)))]) (i := 90) (w := 1214) (o := 160) (ci := 8) (d := 20) rfl (by decide +kernel) (by decide +kernel) rfl (by decide +kernel) (by omega) (by simp [Value.category]) (m_filter (by omega) hM1 (fun ν h1 h2 => ⟨rfl, h1, h2⟩)) (fun x ν2 hx => ?_)
  obtain ⟨rfl, hM2, hl2⟩ := hx
  refine lw_same C (off := 440) 1311 (by decide +kernel) rfl ?_
  exact k ν2 _ (hC1.lo hl2) hM2
theorem lw_k17 {p : Program} {l : Launch} {e : Env} {s : State} {m : MethodId} {below : List Frame} {meth : Method} {c : Code} {b L : Nat} {xs : Nat → Int32} {sk sv : Nat → Nat} {D : va_G} {cA : Nat → ClassId} {μ : mmMem} {S : aS} (C : lwC p s m meth c b L xs sk sv D cA) (hL2 : L ≤ 3584) (i : Nat) (hi : i + 7 ≤ L) (hC : CS μ S) (hM : MS μ S) (k : ∀ ν S', CS ν S' → MS ν S' → lwE p l e s m below meth c b D cA ν 1311 [.ref b, .ref (s.heap.size + 0), .ref (s.heap.size + 160), .int (nI i)] []) : lwE p l e s m below meth c b D cA μ 876 [.ref b, .ref (s.heap.size + 0), .ref (s.heap.size + 160), .int (nI i)] [] := by
  refine lw_aload C (i := 1) (by decide +kernel) rfl ?_
  refine lw_arg C i 1 (by decide +kernel) (by decide +kernel) (by decide +kernel) (by decide +kernel) (by decide +kernel) rfl rfl (by omega) hL2 ?_
  refine lw_arg C i 2 (by decide +kernel) (by decide +kernel) (by decide +kernel) (by decide +kernel) (by decide +kernel) rfl rfl (by omega) hL2 ?_
  refine lw_callI C (K := fun x ν => x = (sp_order (xs (i + 1)) (xs (i + 2)) S).1 ∧ CS ν (sp_order (xs (i + 1)) (xs (i + 2)) S).2 ∧ hiE μ ν) (as := [.int (xs (i + 1)), .int (xs (i + 2))]) (i := 91) (w := 634) (o := 0) (ci := 7) (d := 20) rfl (by decide +kernel) (by decide +kernel) rfl (by decide +kernel) (by omega) (by simp [Value.category]) (c_order (by omega) hC (fun ν h1 h2 => ⟨rfl, h1, h2⟩)) (fun x ν1 hx => ?_)
  obtain ⟨rfl, hC1, hh1⟩ := hx
  have hM1 := hM.hi hh1
  refine lw_aload C (i := 2) (by decide +kernel) rfl ?_
  refine lw_arg C i 1 (by decide +kernel) (by decide +kernel) (by decide +kernel) (by decide +kernel) (by decide +kernel) rfl rfl (by omega) hL2 ?_
  refine lw_arg C i 2 (by decide +kernel) (by decide +kernel) (by decide +kernel) (by decide +kernel) (by decide +kernel) rfl rfl (by omega) hL2 ?_
  refine lw_callI C (K := fun x ν => x = (sp_order (xs (i + 1)) (xs (i + 2)) S).1 ∧ MS ν (sp_order (xs (i + 1)) (xs (i + 2)) S).2 ∧ loE ν1 ν) (as := [.int (xs (i + 1)), .int (xs (i + 2))]) (i := 94) (w := 1218) (o := 160) (ci := 8) (d := 20) rfl (by decide +kernel) (by decide +kernel) rfl (by decide +kernel) (by omega) (by simp [Value.category]) (m_order (by omega) hM1 (fun ν h1 h2 => ⟨rfl, h1, h2⟩)) (fun x ν2 hx => ?_)
  obtain ⟨rfl, hM2, hl2⟩ := hx
  refine lw_same C (off := 407) 1311 (by decide +kernel) rfl ?_
  exact k ν2 _ (hC1.lo hl2) hM2
theorem lw_k18 {p : Program} {l : Launch} {e : Env} {s : State} {m : MethodId} {below : List Frame} {meth : Method} {c : Code} {b L : Nat} {xs : Nat → Int32} {sk sv : Nat → Nat} {D : va_G} {cA : Nat → ClassId} {μ : mmMem} {S : aS} (C : lwC p s m meth c b L xs sk sv D cA) (hL2 : L ≤ 3584) (i : Nat) (hi : i + 7 ≤ L) (hC : CS μ S) (hM : MS μ S) (k : ∀ ν S', CS ν S' → MS ν S' → lwE p l e s m below meth c b D cA ν 1311 [.ref b, .ref (s.heap.size + 0), .ref (s.heap.size + 160), .int (nI i)] []) : lwE p l e s m below meth c b D cA μ 909 [.ref b, .ref (s.heap.size + 0), .ref (s.heap.size + 160), .int (nI i)] [] := by
  refine lw_aload C (i := 1) (by decide +kernel) rfl ?_
  refine lw_arg C i 1 (by decide +kernel) (by decide +kernel) (by decide +kernel) (by decide +kernel) (by decide +kernel) rfl rfl (by omega) hL2 ?_
  refine lw_callI C (K := fun x ν => x = (sp_looked (xs (i + 1)) S).1 ∧ CS ν (sp_looked (xs (i + 1)) S).2 ∧ hiE μ ν) (as := [.int (xs (i + 1))]) (i := 95) (w := 654) (o := 0) (ci := 7) (d := 20) rfl (by decide +kernel) (by decide +kernel) rfl (by decide +kernel) (by omega) (by simp [Value.category]) (c_looked (by omega) hC (fun ν h1 h2 => ⟨rfl, h1, h2⟩)) (fun x ν1 hx => ?_)
  obtain ⟨rfl, hC1, hh1⟩ := hx
  have hM1 := hM.hi hh1
  refine lw_aload C (i := 2) (by decide +kernel) rfl ?_
  refine lw_arg C i 1 (by decide +kernel) (by decide +kernel) (by decide +kernel) (by decide +kernel) (by decide +kernel) rfl rfl (by omega) hL2 ?_
  refine lw_callI C (K := fun x ν => x = (sp_looked (xs (i + 1)) S).1 ∧ MS ν (sp_looked (xs (i + 1)) S).2 ∧ loE ν1 ν) (as := [.int (xs (i + 1))]) (i := 98) (w := 1237) (o := 160) (ci := 8) (d := 20) rfl (by decide +kernel) (by decide +kernel) rfl (by decide +kernel) (by omega) (by simp [Value.category]) (m_looked (by omega) hM1 (fun ν h1 h2 => ⟨rfl, h1, h2⟩)) (fun x ν2 hx => ?_)
  obtain ⟨rfl, hM2, hl2⟩ := hx
  refine lw_same C (off := 384) 1311 (by decide +kernel) rfl ?_
  exact k ν2 _ (hC1.lo hl2) hM2
theorem lw_k19 {p : Program} {l : Launch} {e : Env} {s : State} {m : MethodId} {below : List Frame} {meth : Method} {c : Code} {b L : Nat} {xs : Nat → Int32} {sk sv : Nat → Nat} {D : va_G} {cA : Nat → ClassId} {μ : mmMem} {S : aS} (C : lwC p s m meth c b L xs sk sv D cA) (hL2 : L ≤ 3584) (i : Nat) (hi : i + 7 ≤ L) (hC : CS μ S) (hM : MS μ S) (k : ∀ ν S', CS ν S' → MS ν S' → lwE p l e s m below meth c b D cA ν 1311 [.ref b, .ref (s.heap.size + 0), .ref (s.heap.size + 160), .int (nI i)] []) : lwE p l e s m below meth c b D cA μ 932 [.ref b, .ref (s.heap.size + 0), .ref (s.heap.size + 160), .int (nI i)] [] := by
  refine lw_aload C (i := 1) (by decide +kernel) rfl ?_
  refine lw_arg C i 1 (by decide +kernel) (by decide +kernel) (by decide +kernel) (by decide +kernel) (by decide +kernel) rfl rfl (by omega) hL2 ?_
  refine lw_callI C (K := fun x ν => x = (sp_run (xs (i + 1)) S).1 ∧ CS ν (sp_run (xs (i + 1)) S).2 ∧ hiE μ ν) (as := [.int (xs (i + 1))]) (i := 99) (w := 662) (o := 0) (ci := 7) (d := 20) rfl (by decide +kernel) (by decide +kernel) rfl (by decide +kernel) (by omega) (by simp [Value.category]) (c_run (by omega) hC (fun ν h1 h2 => ⟨rfl, h1, h2⟩)) (fun x ν1 hx => ?_)
  obtain ⟨rfl, hC1, hh1⟩ := hx
  have hM1 := hM.hi hh1
  refine lw_aload C (i := 2) (by decide +kernel) rfl ?_
  refine lw_arg C i 1 (by decide +kernel) (by decide +kernel) (by decide +kernel) (by decide +kernel) (by decide +kernel) rfl rfl (by omega) hL2 ?_
  refine lw_callI C (K := fun x ν => x = (sp_run (xs (i + 1)) S).1 ∧ MS ν (sp_run (xs (i + 1)) S).2 ∧ loE ν1 ν) (as := [.int (xs (i + 1))]) (i := 102) (w := 1241) (o := 160) (ci := 8) (d := 20) rfl (by decide +kernel) (by decide +kernel) rfl (by decide +kernel) (by omega) (by simp [Value.category]) (m_run (by omega) hM1 (fun ν h1 h2 => ⟨rfl, h1, h2⟩)) (fun x ν2 hx => ?_)
  obtain ⟨rfl, hM2, hl2⟩ := hx
  refine lw_same C (off := 361) 1311 (by decide +kernel) rfl ?_
  exact k ν2 _ (hC1.lo hl2) hM2
theorem lw_k20 {p : Program} {l : Launch} {e : Env} {s : State} {m : MethodId} {below : List Frame} {meth : Method} {c : Code} {b L : Nat} {xs : Nat → Int32} {sk sv : Nat → Nat} {D : va_G} {cA : Nat → ClassId} {μ : mmMem} {S : aS} (C : lwC p s m meth c b L xs sk sv D cA) (hL2 : L ≤ 3584) (i : Nat) (hi : i + 7 ≤ L) (hC : CS μ S) (hM : MS μ S) (k : ∀ ν S', CS ν S' → MS ν S' → lwE p l e s m below meth c b D cA ν 1311 [.ref b, .ref (s.heap.size + 0), .ref (s.heap.size + 160), .int (nI i)] []) : lwE p l e s m below meth c b D cA μ 955 [.ref b, .ref (s.heap.size + 0), .ref (s.heap.size + 160), .int (nI i)] [] := by
  refine lw_aload C (i := 1) (by decide +kernel) rfl ?_
  refine lw_arg C i 1 (by decide +kernel) (by decide +kernel) (by decide +kernel) (by decide +kernel) (by decide +kernel) rfl rfl (by omega) hL2 ?_
  refine lw_arg C i 2 (by decide +kernel) (by decide +kernel) (by decide +kernel) (by decide +kernel) (by decide +kernel) rfl rfl (by omega) hL2 ?_
  refine lw_arg C i 3 (by decide +kernel) (by decide +kernel) (by decide +kernel) (by decide +kernel) (by decide +kernel) rfl rfl (by omega) hL2 ?_
  refine lw_callI C (K := fun x ν => x = (sp_pair (xs (i + 1)) (xs (i + 2)) (xs (i + 3)) S).1 ∧ CS ν (sp_pair (xs (i + 1)) (xs (i + 2)) (xs (i + 3)) S).2 ∧ hiE μ ν) (as := [.int (xs (i + 1)), .int (xs (i + 2)), .int (xs (i + 3))]) (i := 103) (w := 666) (o := 0) (ci := 7) (d := 20) rfl (by decide +kernel) (by decide +kernel) rfl (by decide +kernel) (by omega) (by simp [Value.category]) (c_pair (by omega) hC (fun ν h1 h2 => ⟨rfl, h1, h2⟩)) (fun x ν1 hx => ?_)
  obtain ⟨rfl, hC1, hh1⟩ := hx
  have hM1 := hM.hi hh1
  refine lw_aload C (i := 2) (by decide +kernel) rfl ?_
  refine lw_arg C i 1 (by decide +kernel) (by decide +kernel) (by decide +kernel) (by decide +kernel) (by decide +kernel) rfl rfl (by omega) hL2 ?_
  refine lw_arg C i 2 (by decide +kernel) (by decide +kernel) (by decide +kernel) (by decide +kernel) (by decide +kernel) rfl rfl (by omega) hL2 ?_
  refine lw_arg C i 3 (by decide +kernel) (by decide +kernel) (by decide +kernel) (by decide +kernel) (by decide +kernel) rfl rfl (by omega) hL2 ?_
  refine lw_callI C (K := fun x ν => x = (sp_pair (xs (i + 1)) (xs (i + 2)) (xs (i + 3)) S).1 ∧ MS ν (sp_pair (xs (i + 1)) (xs (i + 2)) (xs (i + 3)) S).2 ∧ loE ν1 ν) (as := [.int (xs (i + 1)), .int (xs (i + 2)), .int (xs (i + 3))]) (i := 106) (w := 1245) (o := 160) (ci := 8) (d := 20) rfl (by decide +kernel) (by decide +kernel) rfl (by decide +kernel) (by omega) (by simp [Value.category]) (m_pair (by omega) hM1 (fun ν h1 h2 => ⟨rfl, h1, h2⟩)) (fun x ν2 hx => ?_)
  obtain ⟨rfl, hM2, hl2⟩ := hx
  refine lw_same C (off := 318) 1311 (by decide +kernel) rfl ?_
  exact k ν2 _ (hC1.lo hl2) hM2
theorem lw_k21 {p : Program} {l : Launch} {e : Env} {s : State} {m : MethodId} {below : List Frame} {meth : Method} {c : Code} {b L : Nat} {xs : Nat → Int32} {sk sv : Nat → Nat} {D : va_G} {cA : Nat → ClassId} {μ : mmMem} {S : aS} (C : lwC p s m meth c b L xs sk sv D cA) (hL2 : L ≤ 3584) (i : Nat) (hi : i + 7 ≤ L) (hC : CS μ S) (hM : MS μ S) (k : ∀ ν S', CS ν S' → MS ν S' → lwE p l e s m below meth c b D cA ν 1311 [.ref b, .ref (s.heap.size + 0), .ref (s.heap.size + 160), .int (nI i)] []) : lwE p l e s m below meth c b D cA μ 998 [.ref b, .ref (s.heap.size + 0), .ref (s.heap.size + 160), .int (nI i)] [] := by
  refine lw_aload C (i := 1) (by decide +kernel) rfl ?_
  refine lw_arg C i 1 (by decide +kernel) (by decide +kernel) (by decide +kernel) (by decide +kernel) (by decide +kernel) rfl rfl (by omega) hL2 ?_
  refine lw_arg C i 2 (by decide +kernel) (by decide +kernel) (by decide +kernel) (by decide +kernel) (by decide +kernel) rfl rfl (by omega) hL2 ?_
  refine lw_arg C i 3 (by decide +kernel) (by decide +kernel) (by decide +kernel) (by decide +kernel) (by decide +kernel) rfl rfl (by omega) hL2 ?_
  refine lw_arg C i 4 (by decide +kernel) (by decide +kernel) (by decide +kernel) (by decide +kernel) (by decide +kernel) rfl rfl (by omega) hL2 ?_
  refine lw_callI C (K := fun x ν => x = (sp_group (xs (i + 1)) (xs (i + 2)) (xs (i + 3)) (xs (i + 4)) S).1 ∧ CS ν (sp_group (xs (i + 1)) (xs (i + 2)) (xs (i + 3)) (xs (i + 4)) S).2 ∧ hiE μ ν) (as := [.int (xs (i + 1)), .int (xs (i + 2)), .int (xs (i + 3)), .int (xs (i + 4))]) (i := 107) (w := 671) (o := 0) (ci := 7) (d := 20) rfl (by decide +kernel) (by decide +kernel) rfl (by decide +kernel) (by omega) (by simp [Value.category]) (c_group (by omega) hC (fun ν h1 h2 => ⟨rfl, h1, h2⟩)) (fun x ν1 hx => ?_)
  obtain ⟨rfl, hC1, hh1⟩ := hx
  have hM1 := hM.hi hh1
  refine lw_aload C (i := 2) (by decide +kernel) rfl ?_
  refine lw_arg C i 1 (by decide +kernel) (by decide +kernel) (by decide +kernel) (by decide +kernel) (by decide +kernel) rfl rfl (by omega) hL2 ?_
  refine lw_arg C i 2 (by decide +kernel) (by decide +kernel) (by decide +kernel) (by decide +kernel) (by decide +kernel) rfl rfl (by omega) hL2 ?_
  refine lw_arg C i 3 (by decide +kernel) (by decide +kernel) (by decide +kernel) (by decide +kernel) (by decide +kernel) rfl rfl (by omega) hL2 ?_
  refine lw_arg C i 4 (by decide +kernel) (by decide +kernel) (by decide +kernel) (by decide +kernel) (by decide +kernel) rfl rfl (by omega) hL2 ?_
  refine lw_callI C (K := fun x ν => x = (sp_group (xs (i + 1)) (xs (i + 2)) (xs (i + 3)) (xs (i + 4)) S).1 ∧ MS ν (sp_group (xs (i + 1)) (xs (i + 2)) (xs (i + 3)) (xs (i + 4)) S).2 ∧ loE ν1 ν) (as := [.int (xs (i + 1)), .int (xs (i + 2)), .int (xs (i + 3)), .int (xs (i + 4))]) (i := 111) (w := 1249) (o := 160) (ci := 8) (d := 20) rfl (by decide +kernel) (by decide +kernel) rfl (by decide +kernel) (by omega) (by simp [Value.category]) (m_group (by omega) hM1 (fun ν h1 h2 => ⟨rfl, h1, h2⟩)) (fun x ν2 hx => ?_)
  obtain ⟨rfl, hM2, hl2⟩ := hx
  refine lw_same C (off := 265) 1311 (by decide +kernel) rfl ?_
  exact k ν2 _ (hC1.lo hl2) hM2
theorem lw_k22 {p : Program} {l : Launch} {e : Env} {s : State} {m : MethodId} {below : List Frame} {meth : Method} {c : Code} {b L : Nat} {xs : Nat → Int32} {sk sv : Nat → Nat} {D : va_G} {cA : Nat → ClassId} {μ : mmMem} {S : aS} (C : lwC p s m meth c b L xs sk sv D cA) (hL2 : L ≤ 3584) (i : Nat) (hi : i + 7 ≤ L) (hC : CS μ S) (hM : MS μ S) (k : ∀ ν S', CS ν S' → MS ν S' → lwE p l e s m below meth c b D cA ν 1311 [.ref b, .ref (s.heap.size + 0), .ref (s.heap.size + 160), .int (nI i)] []) : lwE p l e s m below meth c b D cA μ 1051 [.ref b, .ref (s.heap.size + 0), .ref (s.heap.size + 160), .int (nI i)] [] := by
  refine lw_aload C (i := 1) (by decide +kernel) rfl ?_
  refine lw_arg C i 1 (by decide +kernel) (by decide +kernel) (by decide +kernel) (by decide +kernel) (by decide +kernel) rfl rfl (by omega) hL2 ?_
  refine lw_arg C i 2 (by decide +kernel) (by decide +kernel) (by decide +kernel) (by decide +kernel) (by decide +kernel) rfl rfl (by omega) hL2 ?_
  refine lw_arg C i 3 (by decide +kernel) (by decide +kernel) (by decide +kernel) (by decide +kernel) (by decide +kernel) rfl rfl (by omega) hL2 ?_
  refine lw_arg C i 4 (by decide +kernel) (by decide +kernel) (by decide +kernel) (by decide +kernel) (by decide +kernel) rfl rfl (by omega) hL2 ?_
  refine lw_callI C (K := fun x ν => x = (sp_sum (xs (i + 1)) (xs (i + 2)) (xs (i + 3)) (xs (i + 4)) S).1 ∧ CS ν (sp_sum (xs (i + 1)) (xs (i + 2)) (xs (i + 3)) (xs (i + 4)) S).2 ∧ hiE μ ν) (as := [.int (xs (i + 1)), .int (xs (i + 2)), .int (xs (i + 3)), .int (xs (i + 4))]) (i := 112) (w := 691) (o := 0) (ci := 7) (d := 20) rfl (by decide +kernel) (by decide +kernel) rfl (by decide +kernel) (by omega) (by simp [Value.category]) (c_sum (by omega) hC (fun ν h1 h2 => ⟨rfl, h1, h2⟩)) (fun x ν1 hx => ?_)
  obtain ⟨rfl, hC1, hh1⟩ := hx
  have hM1 := hM.hi hh1
  refine lw_aload C (i := 2) (by decide +kernel) rfl ?_
  refine lw_arg C i 1 (by decide +kernel) (by decide +kernel) (by decide +kernel) (by decide +kernel) (by decide +kernel) rfl rfl (by omega) hL2 ?_
  refine lw_arg C i 2 (by decide +kernel) (by decide +kernel) (by decide +kernel) (by decide +kernel) (by decide +kernel) rfl rfl (by omega) hL2 ?_
  refine lw_arg C i 3 (by decide +kernel) (by decide +kernel) (by decide +kernel) (by decide +kernel) (by decide +kernel) rfl rfl (by omega) hL2 ?_
  refine lw_arg C i 4 (by decide +kernel) (by decide +kernel) (by decide +kernel) (by decide +kernel) (by decide +kernel) rfl rfl (by omega) hL2 ?_
  refine lw_callI C (K := fun x ν => x = (sp_sum (xs (i + 1)) (xs (i + 2)) (xs (i + 3)) (xs (i + 4)) S).1 ∧ MS ν (sp_sum (xs (i + 1)) (xs (i + 2)) (xs (i + 3)) (xs (i + 4)) S).2 ∧ loE ν1 ν) (as := [.int (xs (i + 1)), .int (xs (i + 2)), .int (xs (i + 3)), .int (xs (i + 4))]) (i := 115) (w := 1257) (o := 160) (ci := 8) (d := 20) rfl (by decide +kernel) (by decide +kernel) rfl (by decide +kernel) (by omega) (by simp [Value.category]) (m_sum (by omega) hM1 (fun ν h1 h2 => ⟨rfl, h1, h2⟩)) (fun x ν2 hx => ?_)
  obtain ⟨rfl, hM2, hl2⟩ := hx
  refine lw_same C (off := 212) 1311 (by decide +kernel) rfl ?_
  exact k ν2 _ (hC1.lo hl2) hM2
theorem lw_k23 {p : Program} {l : Launch} {e : Env} {s : State} {m : MethodId} {below : List Frame} {meth : Method} {c : Code} {b L : Nat} {xs : Nat → Int32} {sk sv : Nat → Nat} {D : va_G} {cA : Nat → ClassId} {μ : mmMem} {S : aS} (C : lwC p s m meth c b L xs sk sv D cA) (hL2 : L ≤ 3584) (i : Nat) (hi : i + 7 ≤ L) (hC : CS μ S) (hM : MS μ S) (k : ∀ ν S', CS ν S' → MS ν S' → lwE p l e s m below meth c b D cA ν 1311 [.ref b, .ref (s.heap.size + 0), .ref (s.heap.size + 160), .int (nI i)] []) : lwE p l e s m below meth c b D cA μ 1104 [.ref b, .ref (s.heap.size + 0), .ref (s.heap.size + 160), .int (nI i)] [] := by
  refine lw_aload C (i := 1) (by decide +kernel) rfl ?_
  refine lw_arg C i 1 (by decide +kernel) (by decide +kernel) (by decide +kernel) (by decide +kernel) (by decide +kernel) rfl rfl (by omega) hL2 ?_
  refine lw_arg C i 2 (by decide +kernel) (by decide +kernel) (by decide +kernel) (by decide +kernel) (by decide +kernel) rfl rfl (by omega) hL2 ?_
  refine lw_callI C (K := fun x ν => x = (sp_loses (xs (i + 1)) (xs (i + 2)) S).1 ∧ CS ν (sp_loses (xs (i + 1)) (xs (i + 2)) S).2 ∧ hiE μ ν) (as := [.int (xs (i + 1)), .int (xs (i + 2))]) (i := 116) (w := 714) (o := 0) (ci := 7) (d := 20) rfl (by decide +kernel) (by decide +kernel) rfl (by decide +kernel) (by omega) (by simp [Value.category]) (c_loses (by omega) hC (fun ν h1 h2 => ⟨rfl, h1, h2⟩)) (fun x ν1 hx => ?_)
  obtain ⟨rfl, hC1, hh1⟩ := hx
  have hM1 := hM.hi hh1
  refine lw_aload C (i := 2) (by decide +kernel) rfl ?_
  refine lw_arg C i 1 (by decide +kernel) (by decide +kernel) (by decide +kernel) (by decide +kernel) (by decide +kernel) rfl rfl (by omega) hL2 ?_
  refine lw_arg C i 2 (by decide +kernel) (by decide +kernel) (by decide +kernel) (by decide +kernel) (by decide +kernel) rfl rfl (by omega) hL2 ?_
  refine lw_callI C (K := fun x ν => x = (sp_loses (xs (i + 1)) (xs (i + 2)) S).1 ∧ MS ν (sp_loses (xs (i + 1)) (xs (i + 2)) S).2 ∧ loE ν1 ν) (as := [.int (xs (i + 1)), .int (xs (i + 2))]) (i := 119) (w := 1261) (o := 160) (ci := 8) (d := 20) rfl (by decide +kernel) (by decide +kernel) rfl (by decide +kernel) (by omega) (by simp [Value.category]) (m_loses (by omega) hM1 (fun ν h1 h2 => ⟨rfl, h1, h2⟩)) (fun x ν2 hx => ?_)
  obtain ⟨rfl, hM2, hl2⟩ := hx
  refine lw_same C (off := 179) 1311 (by decide +kernel) rfl ?_
  exact k ν2 _ (hC1.lo hl2) hM2
