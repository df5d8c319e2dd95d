/-! ===== the model: cells of one column by rank ===== -/
theorem m_rankedAt {d k r q : Nat} {x : aCol} {S : aS} {μ : mmMem} {K : Int32 → mmMem → Prop} (hd : 5 ≤ d) (hM : MS μ S) (hx : S.1.2.1[k]? = some x) (hr : r < S.1.1) (hq : q < S.1.1) (h : K (aRank (x.2.2 r) (x.2.2 q)) μ) : mmCI d M_X8_ranked_ false 3 [.ref 160, .int (nI k), .int (nI r), .int (nI q)] μ K := by
  refine u_X8_ranked_ (by omega) ?_
  have h40 := hM.2.1.1
  have h12 := hM.2.1.2.1
  have lk := lt_of_get hx
  obtain ⟨-, -, x3⟩ := hM.1.2.1 k x hx
  obtain ⟨x4, x5⟩ := x3 r hr
  obtain ⟨y4, y5⟩ := x3 q hq
  have okc := hM.2.1.2.2.1 x (List.mem_of_getElem? hx)
  rw [nI_plc, nI_plc, nI_136, nI_136, nI_clamp (show 136 + (40 * k + r) < 2 ^ 31 by omega), nI_clamp (show 136 + (40 * k + q) < 2 ^ 31 by omega), nI_clamp (show 40 * k + r < 2 ^ 31 by omega), nI_clamp (show 40 * k + q < 2 ^ 31 by omega), x4, y4, x5, y5]
  refine ⟨vp_in_nI (by omega) (by decide), vp_in_nI (by omega) (by decide), vp_in_nI (by omega) (by decide), vp_in_nI (by omega) (by decide), ?_⟩
  exact m_ranked (by omega) (okc.2.2 r hr).1 (okc.2.2 q hq).1 h
