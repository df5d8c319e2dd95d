/-! ===== the law's cases 8 to 15 ===== -/
theorem lw_k8 {p : Program} {l : Launch} {e : Env} {s : State} {m : MethodId} {below : List Frame} {meth : Method} {c : Code} {b L : Nat} {xs : Nat → Int32} {sk sv : Nat → Nat} {D : va_G} {cA : Nat → ClassId} {μ : mmMem} {S : aS} (C : lwC p s m meth c b L xs sk sv D cA) (hL2 : L ≤ 3584) (i : Nat) (hi : i + 7 ≤ L) (hC : CS μ S) (hM : MS μ S) (k : ∀ ν S', CS ν S' → MS ν S' → lwE p l e s m below meth c b D cA ν 1311 [.ref b, .ref (s.heap.size + 0), .ref (s.heap.size + 160), .int (nI i)] []) : lwE p l e s m below meth c b D cA μ 471 [.ref b, .ref (s.heap.size + 0), .ref (s.heap.size + 160), .int (nI i)] [] := by
  refine lw_aload C (i := 1) (by decide +kernel) rfl ?_
  refine lw_arg C i 1 (by decide +kernel) (by decide +kernel) (by decide +kernel) (by decide +kernel) (by decide +kernel) rfl rfl (by omega) hL2 ?_
  refine lw_arg C i 2 (by decide +kernel) (by decide +kernel) (by decide +kernel) (by decide +kernel) (by decide +kernel) rfl rfl (by omega) hL2 ?_
  refine lw_callI C (K := fun x ν => x = (sp_swap (xs (i + 1)) (xs (i + 2)) S).1 ∧ CS ν (sp_swap (xs (i + 1)) (xs (i + 2)) S).2 ∧ hiE μ ν) (as := [.int (xs (i + 1)), .int (xs (i + 2))]) (i := 52) (w := 492) (o := 0) (ci := 7) (d := 20) rfl (by decide +kernel) (by decide +kernel) rfl (by decide +kernel) (by omega) (by simp [Value.category]) (c_swap (by omega) hC (fun ν h1 h2 => ⟨rfl, h1, h2⟩)) (fun x ν1 hx => ?_)
  obtain ⟨rfl, hC1, hh1⟩ := hx
  have hM1 := hM.hi hh1
  refine lw_aload C (i := 2) (by decide +kernel) rfl ?_
  refine lw_arg C i 1 (by decide +kernel) (by decide +kernel) (by decide +kernel) (by decide +kernel) (by decide +kernel) rfl rfl (by omega) hL2 ?_
  refine lw_arg C i 2 (by decide +kernel) (by decide +kernel) (by decide +kernel) (by decide +kernel) (by decide +kernel) rfl rfl (by omega) hL2 ?_
  refine lw_callI C (K := fun x ν => x = (sp_swap (xs (i + 1)) (xs (i + 2)) S).1 ∧ MS ν (sp_swap (xs (i + 1)) (xs (i + 2)) S).2 ∧ loE ν1 ν) (as := [.int (xs (i + 1)), .int (xs (i + 2))]) (i := 56) (w := 1131) (o := 160) (ci := 8) (d := 20) rfl (by decide +kernel) (by decide +kernel) rfl (by decide +kernel) (by omega) (by simp [Value.category]) (m_swap (by omega) hM1 (fun ν h1 h2 => ⟨rfl, h1, h2⟩)) (fun x ν2 hx => ?_)
  obtain ⟨rfl, hM2, hl2⟩ := hx
  refine lw_same C (off := 812) 1311 (by decide +kernel) rfl ?_
  exact k ν2 _ (hC1.lo hl2) hM2
theorem lw_k9 {p : Program} {l : Launch} {e : Env} {s : State} {m : MethodId} {below : List Frame} {meth : Method} {c : Code} {b L : Nat} {xs : Nat → Int32} {sk sv : Nat → Nat} {D : va_G} {cA : Nat → ClassId} {μ : mmMem} {S : aS} (C : lwC p s m meth c b L xs sk sv D cA) (hL2 : L ≤ 3584) (i : Nat) (hi : i + 7 ≤ L) (hC : CS μ S) (hM : MS μ S) (k : ∀ ν S', CS ν S' → MS ν S' → lwE p l e s m below meth c b D cA ν 1311 [.ref b, .ref (s.heap.size + 0), .ref (s.heap.size + 160), .int (nI i)] []) : lwE p l e s m below meth c b D cA μ 504 [.ref b, .ref (s.heap.size + 0), .ref (s.heap.size + 160), .int (nI i)] [] := by
  refine lw_aload C (i := 1) (by decide +kernel) rfl ?_
  refine lw_arg C i 1 (by decide +kernel) (by decide +kernel) (by decide +kernel) (by decide +kernel) (by decide +kernel) rfl rfl (by omega) hL2 ?_
  refine lw_arg C i 2 (by decide +kernel) (by decide +kernel) (by decide +kernel) (by decide +kernel) (by decide +kernel) rfl rfl (by omega) hL2 ?_
  refine lw_callI C (K := fun x ν => x = (sp_differs (xs (i + 1)) (xs (i + 2)) S).1 ∧ CS ν (sp_differs (xs (i + 1)) (xs (i + 2)) S).2 ∧ hiE μ ν) (as := [.int (xs (i + 1)), .int (xs (i + 2))]) (i := 57) (w := 496) (o := 0) (ci := 7) (d := 20) rfl (by decide +kernel) (by decide +kernel) rfl (by decide +kernel) (by omega) (by simp [Value.category]) (c_differs (by omega) hC (fun ν h1 h2 => ⟨rfl, h1, h2⟩)) (fun x ν1 hx => ?_)
  obtain ⟨rfl, hC1, hh1⟩ := hx
  have hM1 := hM.hi hh1
  refine lw_aload C (i := 2) (by decide +kernel) rfl ?_
  refine lw_arg C i 1 (by decide +kernel) (by decide +kernel) (by decide +kernel) (by decide +kernel) (by decide +kernel) rfl rfl (by omega) hL2 ?_
  refine lw_arg C i 2 (by decide +kernel) (by decide +kernel) (by decide +kernel) (by decide +kernel) (by decide +kernel) rfl rfl (by omega) hL2 ?_
  refine lw_callI C (K := fun x ν => x = (sp_differs (xs (i + 1)) (xs (i + 2)) S).1 ∧ MS ν (sp_differs (xs (i + 1)) (xs (i + 2)) S).2 ∧ loE ν1 ν) (as := [.int (xs (i + 1)), .int (xs (i + 2))]) (i := 60) (w := 1139) (o := 160) (ci := 8) (d := 20) rfl (by decide +kernel) (by decide +kernel) rfl (by decide +kernel) (by omega) (by simp [Value.category]) (m_differs (by omega) hM1 (fun ν h1 h2 => ⟨rfl, h1, h2⟩)) (fun x ν2 hx => ?_)
  obtain ⟨rfl, hM2, hl2⟩ := hx
  refine lw_same C (off := 779) 1311 (by decide +kernel) rfl ?_
  exact k ν2 _ (hC1.lo hl2) hM2
theorem lw_k10 {p : Program} {l : Launch} {e : Env} {s : State} {m : MethodId} {below : List Frame} {meth : Method} {c : Code} {b L : Nat} {xs : Nat → Int32} {sk sv : Nat → Nat} {D : va_G} {cA : Nat → ClassId} {μ : mmMem} {S : aS} (C : lwC p s m meth c b L xs sk sv D cA) (hL2 : L ≤ 3584) (i : Nat) (hi : i + 7 ≤ L) (hC : CS μ S) (hM : MS μ S) (k : ∀ ν S', CS ν S' → MS ν S' → lwE p l e s m below meth c b D cA ν 1311 [.ref b, .ref (s.heap.size + 0), .ref (s.heap.size + 160), .int (nI i)] []) : lwE p l e s m below meth c b D cA μ 537 [.ref b, .ref (s.heap.size + 0), .ref (s.heap.size + 160), .int (nI i)] [] := by
  refine lw_aload C (i := 1) (by decide +kernel) rfl ?_
  refine lw_arg C i 1 (by decide +kernel) (by decide +kernel) (by decide +kernel) (by decide +kernel) (by decide +kernel) rfl rfl (by omega) hL2 ?_
  refine lw_arg C i 2 (by decide +kernel) (by decide +kernel) (by decide +kernel) (by decide +kernel) (by decide +kernel) rfl rfl (by omega) hL2 ?_
  refine lw_callI C (K := fun x ν => x = (sp_of (xs (i + 1)) (xs (i + 2)) S).1 ∧ CS ν (sp_of (xs (i + 1)) (xs (i + 2)) S).2 ∧ hiE μ ν) (as := [.int (xs (i + 1)), .int (xs (i + 2))]) (i := 61) (w := 508) (o := 0) (ci := 7) (d := 20) rfl (by decide +kernel) (by decide +kernel) rfl (by decide +kernel) (by omega) (by simp [Value.category]) (c_of (by omega) hC (fun ν h1 h2 => ⟨rfl, h1, h2⟩)) (fun x ν1 hx => ?_)
  obtain ⟨rfl, hC1, hh1⟩ := hx
  have hM1 := hM.hi hh1
  refine lw_aload C (i := 2) (by decide +kernel) rfl ?_
  refine lw_arg C i 1 (by decide +kernel) (by decide +kernel) (by decide +kernel) (by decide +kernel) (by decide +kernel) rfl rfl (by omega) hL2 ?_
  refine lw_arg C i 2 (by decide +kernel) (by decide +kernel) (by decide +kernel) (by decide +kernel) (by decide +kernel) rfl rfl (by omega) hL2 ?_
  refine lw_callI C (K := fun x ν => x = (sp_of (xs (i + 1)) (xs (i + 2)) S).1 ∧ MS ν (sp_of (xs (i + 1)) (xs (i + 2)) S).2 ∧ loE ν1 ν) (as := [.int (xs (i + 1)), .int (xs (i + 2))]) (i := 64) (w := 1147) (o := 160) (ci := 8) (d := 20) rfl (by decide +kernel) (by decide +kernel) rfl (by decide +kernel) (by omega) (by simp [Value.category]) (m_of (by omega) hM1 (fun ν h1 h2 => ⟨rfl, h1, h2⟩)) (fun x ν2 hx => ?_)
  obtain ⟨rfl, hM2, hl2⟩ := hx
  refine lw_same C (off := 746) 1311 (by decide +kernel) rfl ?_
  exact k ν2 _ (hC1.lo hl2) hM2
theorem lw_k11 {p : Program} {l : Launch} {e : Env} {s : State} {m : MethodId} {below : List Frame} {meth : Method} {c : Code} {b L : Nat} {xs : Nat → Int32} {sk sv : Nat → Nat} {D : va_G} {cA : Nat → ClassId} {μ : mmMem} {S : aS} (C : lwC p s m meth c b L xs sk sv D cA) (hL2 : L ≤ 3584) (i : Nat) (hi : i + 7 ≤ L) (hC : CS μ S) (hM : MS μ S) (k : ∀ ν S', CS ν S' → MS ν S' → lwE p l e s m below meth c b D cA ν 1311 [.ref b, .ref (s.heap.size + 0), .ref (s.heap.size + 160), .int (nI i)] []) : lwE p l e s m below meth c b D cA μ 570 [.ref b, .ref (s.heap.size + 0), .ref (s.heap.size + 160), .int (nI i)] [] := by
  refine lw_aload C (i := 1) (by decide +kernel) rfl ?_
  refine lw_arg C i 1 (by decide +kernel) (by decide +kernel) (by decide +kernel) (by decide +kernel) (by decide +kernel) rfl rfl (by omega) hL2 ?_
  refine lw_callI C (K := fun x ν => x = (sp_view (xs (i + 1)) S).1 ∧ CS ν (sp_view (xs (i + 1)) S).2 ∧ hiE μ ν) (as := [.int (xs (i + 1))]) (i := 65) (w := 548) (o := 0) (ci := 7) (d := 20) rfl (by decide +kernel) (by decide +kernel) rfl (by decide +kernel) (by omega) (by simp [Value.category]) (c_view (by omega) hC (fun ν h1 h2 => ⟨rfl, h1, h2⟩)) (fun x ν1 hx => ?_)
  obtain ⟨rfl, hC1, hh1⟩ := hx
  have hM1 := hM.hi hh1
  refine lw_aload C (i := 2) (by decide +kernel) rfl ?_
  refine lw_arg C i 1 (by decide +kernel) (by decide +kernel) (by decide +kernel) (by decide +kernel) (by decide +kernel) rfl rfl (by omega) hL2 ?_
  refine lw_callI C (K := fun x ν => x = (sp_view (xs (i + 1)) S).1 ∧ MS ν (sp_view (xs (i + 1)) S).2 ∧ loE ν1 ν) (as := [.int (xs (i + 1))]) (i := 68) (w := 1171) (o := 160) (ci := 8) (d := 20) rfl (by decide +kernel) (by decide +kernel) rfl (by decide +kernel) (by omega) (by simp [Value.category]) (m_view (by omega) hM1 (fun ν h1 h2 => ⟨rfl, h1, h2⟩)) (fun x ν2 hx => ?_)
  obtain ⟨rfl, hM2, hl2⟩ := hx
  refine lw_same C (off := 723) 1311 (by decide +kernel) rfl ?_
  exact k ν2 _ (hC1.lo hl2) hM2
theorem lw_k12 {p : Program} {l : Launch} {e : Env} {s : State} {m : MethodId} {below : List Frame} {meth : Method} {c : Code} {b L : Nat} {xs : Nat → Int32} {sk sv : Nat → Nat} {D : va_G} {cA : Nat → ClassId} {μ : mmMem} {S : aS} (C : lwC p s m meth c b L xs sk sv D cA) (hL2 : L ≤ 3584) (i : Nat) (hi : i + 7 ≤ L) (hC : CS μ S) (hM : MS μ S) (k : ∀ ν S', CS ν S' → MS ν S' → lwE p l e s m below meth c b D cA ν 1311 [.ref b, .ref (s.heap.size + 0), .ref (s.heap.size + 160), .int (nI i)] []) : lwE p l e s m below meth c b D cA μ 593 [.ref b, .ref (s.heap.size + 0), .ref (s.heap.size + 160), .int (nI i)] [] := by
  refine lw_aload C (i := 1) (by decide +kernel) rfl ?_
  refine lw_arg C i 1 (by decide +kernel) (by decide +kernel) (by decide +kernel) (by decide +kernel) (by decide +kernel) rfl rfl (by omega) hL2 ?_
  refine lw_arg C i 2 (by decide +kernel) (by decide +kernel) (by decide +kernel) (by decide +kernel) (by decide +kernel) rfl rfl (by omega) hL2 ?_
  refine lw_callI C (K := fun x ν => x = (sp_viewed (xs (i + 1)) (xs (i + 2)) S).1 ∧ CS ν (sp_viewed (xs (i + 1)) (xs (i + 2)) S).2 ∧ hiE μ ν) (as := [.int (xs (i + 1)), .int (xs (i + 2))]) (i := 69) (w := 559) (o := 0) (ci := 7) (d := 20) rfl (by decide +kernel) (by decide +kernel) rfl (by decide +kernel) (by omega) (by simp [Value.category]) (c_viewed (by omega) hC (fun ν h1 h2 => ⟨rfl, h1, h2⟩)) (fun x ν1 hx => ?_)
  obtain ⟨rfl, hC1, hh1⟩ := hx
  have hM1 := hM.hi hh1
  refine lw_aload C (i := 2) (by decide +kernel) rfl ?_
  refine lw_arg C i 1 (by decide +kernel) (by decide +kernel) (by decide +kernel) (by decide +kernel) (by decide +kernel) rfl rfl (by omega) hL2 ?_
  refine lw_arg C i 2 (by decide +kernel) (by decide +kernel) (by decide +kernel) (by decide +kernel) (by decide +kernel) rfl rfl (by omega) hL2 ?_
  refine lw_callI C (K := fun x ν => x = (sp_viewed (xs (i + 1)) (xs (i + 2)) S).1 ∧ MS ν (sp_viewed (xs (i + 1)) (xs (i + 2)) S).2 ∧ loE ν1 ν) (as := [.int (xs (i + 1)), .int (xs (i + 2))]) (i := 72) (w := 1178) (o := 160) (ci := 8) (d := 20) rfl (by decide +kernel) (by decide +kernel) rfl (by decide +kernel) (by omega) (by simp [Value.category]) (m_viewed (by omega) hM1 (fun ν h1 h2 => ⟨rfl, h1, h2⟩)) (fun x ν2 hx => ?_)
  obtain ⟨rfl, hM2, hl2⟩ := hx
  refine lw_same C (off := 690) 1311 (by decide +kernel) rfl ?_
  exact k ν2 _ (hC1.lo hl2) hM2
theorem lw_k13 {p : Program} {l : Launch} {e : Env} {s : State} {m : MethodId} {below : List Frame} {meth : Method} {c : Code} {b L : Nat} {xs : Nat → Int32} {sk sv : Nat → Nat} {D : va_G} {cA : Nat → ClassId} {μ : mmMem} {S : aS} (C : lwC p s m meth c b L xs sk sv D cA) (hL2 : L ≤ 3584) (i : Nat) (hi : i + 7 ≤ L) (hC : CS μ S) (hM : MS μ S) (k : ∀ ν S', CS ν S' → MS ν S' → lwE p l e s m below meth c b D cA ν 1311 [.ref b, .ref (s.heap.size + 0), .ref (s.heap.size + 160), .int (nI i)] []) : lwE p l e s m below meth c b D cA μ 626 [.ref b, .ref (s.heap.size + 0), .ref (s.heap.size + 160), .int (nI i)] [] := by
  refine lw_aload C (i := 1) (by decide +kernel) rfl ?_
  refine lw_arg C i 1 (by decide +kernel) (by decide +kernel) (by decide +kernel) (by decide +kernel) (by decide +kernel) rfl rfl (by omega) hL2 ?_
  refine lw_arg C i 2 (by decide +kernel) (by decide +kernel) (by decide +kernel) (by decide +kernel) (by decide +kernel) rfl rfl (by omega) hL2 ?_
  refine lw_arg C i 3 (by decide +kernel) (by decide +kernel) (by decide +kernel) (by decide +kernel) (by decide +kernel) rfl rfl (by omega) hL2 ?_
  refine lw_arg C i 4 (by decide +kernel) (by decide +kernel) (by decide +kernel) (by decide +kernel) (by decide +kernel) rfl rfl (by omega) hL2 ?_
  refine lw_arg C i 5 (by decide +kernel) (by decide +kernel) (by decide +kernel) (by decide +kernel) (by decide +kernel) rfl rfl (by omega) hL2 ?_
  refine lw_up C (by decide +kernel) (by decide +kernel) (by decide +kernel) ?_
  refine lw_arg6 C i (by decide +kernel) (by decide +kernel) (by decide +kernel) (by decide +kernel) (by decide +kernel) rfl rfl (by omega) hL2 ?_
  refine lw_low C (by decide +kernel) (by decide +kernel) (by decide +kernel) (by decide +kernel) ?_
  refine lw_callI C (K := fun x ν => x = (sp_keep (xs (i + 1)) (xs (i + 2)) (xs (i + 3)) (xs (i + 4)) (lwJ (xs (i + 5)) (xs (i + 6))) S).1 ∧ CS ν (sp_keep (xs (i + 1)) (xs (i + 2)) (xs (i + 3)) (xs (i + 4)) (lwJ (xs (i + 5)) (xs (i + 6))) S).2 ∧ hiE μ ν) (as := [.int (xs (i + 1)), .int (xs (i + 2)), .int (xs (i + 3)), .int (xs (i + 4)), .long (lwJ (xs (i + 5)) (xs (i + 6)))]) (i := 73) (w := 563) (o := 0) (ci := 7) (d := 20) rfl (by decide +kernel) (by decide +kernel) rfl (by decide +kernel) (by omega) (by simp [Value.category]) (c_keep (by omega) hC (fun ν h1 h2 => ⟨rfl, h1, h2⟩)) (fun x ν1 hx => ?_)
  obtain ⟨rfl, hC1, hh1⟩ := hx
  have hM1 := hM.hi hh1
  refine lw_aload C (i := 2) (by decide +kernel) rfl ?_
  refine lw_arg C i 1 (by decide +kernel) (by decide +kernel) (by decide +kernel) (by decide +kernel) (by decide +kernel) rfl rfl (by omega) hL2 ?_
  refine lw_arg C i 2 (by decide +kernel) (by decide +kernel) (by decide +kernel) (by decide +kernel) (by decide +kernel) rfl rfl (by omega) hL2 ?_
  refine lw_arg C i 3 (by decide +kernel) (by decide +kernel) (by decide +kernel) (by decide +kernel) (by decide +kernel) rfl rfl (by omega) hL2 ?_
  refine lw_arg C i 4 (by decide +kernel) (by decide +kernel) (by decide +kernel) (by decide +kernel) (by decide +kernel) rfl rfl (by omega) hL2 ?_
  refine lw_arg C i 5 (by decide +kernel) (by decide +kernel) (by decide +kernel) (by decide +kernel) (by decide +kernel) rfl rfl (by omega) hL2 ?_
  refine lw_up C (by decide +kernel) (by decide +kernel) (by decide +kernel) ?_
  refine lw_arg6 C i (by decide +kernel) (by decide +kernel) (by decide +kernel) (by decide +kernel) (by decide +kernel) rfl rfl (by omega) hL2 ?_
  refine lw_low C (by decide +kernel) (by decide +kernel) (by decide +kernel) (by decide +kernel) ?_
  refine lw_callI C (K := fun x ν => x = (sp_keep (xs (i + 1)) (xs (i + 2)) (xs (i + 3)) (xs (i + 4)) (lwJ (xs (i + 5)) (xs (i + 6))) S).1 ∧ MS ν (sp_keep (xs (i + 1)) (xs (i + 2)) (xs (i + 3)) (xs (i + 4)) (lwJ (xs (i + 5)) (xs (i + 6))) S).2 ∧ loE ν1 ν) (as := [.int (xs (i + 1)), .int (xs (i + 2)), .int (xs (i + 3)), .int (xs (i + 4)), .long (lwJ (xs (i + 5)) (xs (i + 6)))]) (i := 77) (w := 1187) (o := 160) (ci := 8) (d := 20) rfl (by decide +kernel) (by decide +kernel) rfl (by decide +kernel) (by omega) (by simp [Value.category]) (m_keep (by omega) hM1 (fun ν h1 h2 => ⟨rfl, h1, h2⟩)) (fun x ν2 hx => ?_)
  obtain ⟨rfl, hM2, hl2⟩ := hx
  refine lw_same C (off := 595) 1311 (by decide +kernel) rfl ?_
  exact k ν2 _ (hC1.lo hl2) hM2
theorem lw_k14 {p : Program} {l : Launch} {e : Env} {s : State} {m : MethodId} {below : List Frame} {meth : Method} {c : Code} {b L : Nat} {xs : Nat → Int32} {sk sv : Nat → Nat} {D : va_G} {cA : Nat → ClassId} {μ : mmMem} {S : aS} (C : lwC p s m meth c b L xs sk sv D cA) (hL2 : L ≤ 3584) (i : Nat) (hi : i + 7 ≤ L) (hC : CS μ S) (hM : MS μ S) (k : ∀ ν S', CS ν S' → MS ν S' → lwE p l e s m below meth c b D cA ν 1311 [.ref b, .ref (s.heap.size + 0), .ref (s.heap.size + 160), .int (nI i)] []) : lwE p l e s m below meth c b D cA μ 721 [.ref b, .ref (s.heap.size + 0), .ref (s.heap.size + 160), .int (nI i)] [] := by
  refine lw_aload C (i := 1) (by decide +kernel) rfl ?_
  refine lw_arg C i 1 (by decide +kernel) (by decide +kernel) (by decide +kernel) (by decide +kernel) (by decide +kernel) rfl rfl (by omega) hL2 ?_
  refine lw_arg C i 2 (by decide +kernel) (by decide +kernel) (by decide +kernel) (by decide +kernel) (by decide +kernel) rfl rfl (by omega) hL2 ?_
  refine lw_bool C (o1 := 7) (o2 := 4) 739 740 (by decide +kernel) rfl (by decide +kernel) (by decide +kernel) rfl (by decide +kernel) rfl ?_
  refine lw_callI C (K := fun x ν => x = (sp_key (xs (i + 1)) (decide (xs (i + 2) ≠ 0)) S).1 ∧ CS ν (sp_key (xs (i + 1)) (decide (xs (i + 2) ≠ 0)) S).2 ∧ hiE μ ν) (as := [.int (xs (i + 1)), .int (if (decide (xs (i + 2) ≠ 0)) = true then 1 else 0)]) (i := 78) (w := 605) (o := 0) (ci := 7) (d := 20) rfl (by decide +kernel) (by decide +kernel) rfl (by decide +kernel) (by omega) (by simp [Value.category]) (c_key (by omega) hC (fun ν h1 h2 => ⟨rfl, h1, h2⟩)) (fun x ν1 hx => ?_)
  obtain ⟨rfl, hC1, hh1⟩ := hx
  have hM1 := hM.hi hh1
  refine lw_aload C (i := 2) (by decide +kernel) rfl ?_
  refine lw_arg C i 1 (by decide +kernel) (by decide +kernel) (by decide +kernel) (by decide +kernel) (by decide +kernel) rfl rfl (by omega) hL2 ?_
  refine lw_arg C i 2 (by decide +kernel) (by decide +kernel) (by decide +kernel) (by decide +kernel) (by decide +kernel) rfl rfl (by omega) hL2 ?_
  refine lw_bool C (o1 := 7) (o2 := 4) 761 762 (by decide +kernel) rfl (by decide +kernel) (by decide +kernel) rfl (by decide +kernel) rfl ?_
  refine lw_callI C (K := fun x ν => x = (sp_key (xs (i + 1)) (decide (xs (i + 2) ≠ 0)) S).1 ∧ MS ν (sp_key (xs (i + 1)) (decide (xs (i + 2) ≠ 0)) S).2 ∧ loE ν1 ν) (as := [.int (xs (i + 1)), .int (if (decide (xs (i + 2) ≠ 0)) = true then 1 else 0)]) (i := 82) (w := 1202) (o := 160) (ci := 8) (d := 20) rfl (by decide +kernel) (by decide +kernel) rfl (by decide +kernel) (by omega) (by simp [Value.category]) (m_key (by omega) hM1 (fun ν h1 h2 => ⟨rfl, h1, h2⟩)) (fun x ν2 hx => ?_)
  obtain ⟨rfl, hM2, hl2⟩ := hx
  refine lw_same C (off := 546) 1311 (by decide +kernel) rfl ?_
  exact k ν2 _ (hC1.lo hl2) hM2
theorem lw_k15 {p : Program} {l : Launch} {e : Env} {s : State} {m : MethodId} {below : List Frame} {meth : Method} {c : Code} {b L : Nat} {xs : Nat → Int32} {sk sv : Nat → Nat} {D : va_G} {cA : Nat → ClassId} {μ : mmMem} {S : aS} (C : lwC p s m meth c b L xs sk sv D cA) (hL2 : L ≤ 3584) (i : Nat) (hi : i + 7 ≤ L) (hC : CS μ S) (hM : MS μ S) (k : ∀ ν S', CS ν S' → MS ν S' → lwE p l e s m below meth c b D cA ν 1311 [.ref b, .ref (s.heap.size + 0), .ref (s.heap.size + 160), .int (nI i)] []) : lwE p l e s m below meth c b D cA μ 770 [.ref b, .ref (s.heap.size + 0), .ref (s.heap.size + 160), .int (nI i)] [] := by
  refine lw_aload C (i := 1) (by decide +kernel) rfl ?_
  refine lw_arg C i 1 (by decide +kernel) (by decide +kernel) (by decide +kernel) (by decide +kernel) (by decide +kernel) rfl rfl (by omega) hL2 ?_
  refine lw_callI C (K := fun x ν => x = (sp_sort (xs (i + 1)) S).1 ∧ CS ν (sp_sort (xs (i + 1)) S).2 ∧ hiE μ ν) (as := [.int (xs (i + 1))]) (i := 83) (w := 613) (o := 0) (ci := 7) (d := 20) rfl (by decide +kernel) (by decide +kernel) rfl (by decide +kernel) (by omega) (by simp [Value.category]) (c_sort (by omega) hC (fun ν h1 h2 => ⟨rfl, h1, h2⟩)) (fun x ν1 hx => ?_)
  obtain ⟨rfl, hC1, hh1⟩ := hx
  have hM1 := hM.hi hh1
  refine lw_aload C (i := 2) (by decide +kernel) rfl ?_
  refine lw_arg C i 1 (by decide +kernel) (by decide +kernel) (by decide +kernel) (by decide +kernel) (by decide +kernel) rfl rfl (by omega) hL2 ?_
  refine lw_callI C (K := fun x ν => x = (sp_sort (xs (i + 1)) S).1 ∧ MS ν (sp_sort (xs (i + 1)) S).2 ∧ loE ν1 ν) (as := [.int (xs (i + 1))]) (i := 86) (w := 1206) (o := 160) (ci := 8) (d := 20) rfl (by decide +kernel) (by decide +kernel) rfl (by decide +kernel) (by omega) (by simp [Value.category]) (m_sort (by omega) hM1 (fun ν h1 h2 => ⟨rfl, h1, h2⟩)) (fun x ν2 hx => ?_)
  obtain ⟨rfl, hM2, hl2⟩ := hx
  refine lw_same C (off := 523) 1311 (by decide +kernel) rfl ?_
  exact k ν2 _ (hC1.lo hl2) hM2
