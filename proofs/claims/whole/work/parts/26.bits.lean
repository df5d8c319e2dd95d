/-! ===== the number of a cell ===== -/
theorem c_bits {d p : Nat} {x : aC} {μ : mmMem} {K : Int64 → mmMem → Prop} (hd : 2 ≤ d) (hp : mmKD p = 0) (hx : clC μ p x) (ok : okC x) (h : K x.2 μ) : mmCJ d M_X0_bits false 0 [.ref p] μ K := sorry
