/-! ===== the class: a column's text ===== -/
/-- what the constant's own methods are to give (shown apart) -/
def ltr (k : Nat) : Int32 := [122, 98, 99, 115, 105, 108, 102, 100, 119, 111, 110].getD k 0
def strOK : Prop := ∀ (d k : Nat) (μ : mmMem) (K : Int32 → mmMem → Prop), 6 ≤ d → k < 11 → K (ltr k) μ → mmCI d M_J0_charAt_5068e false 1 [.retAddr 0, .int (nI k)] μ K
def spC (μ : mmMem) (l : List Int32) : Prop := μ.1 144 0 = nI l.length ∧ ∀ i x, l[i]? = some x → μ.1 145 i = x
def spU (μ ν : mmMem) : Prop := ∀ q, q ≠ 144 → q ≠ 145 → eq3 μ ν q
theorem spU.trans {μ ν ξ : mmMem} (h : spU μ ν) (h2 : spU ν ξ) : spU μ ξ := fun q a b => (h q a b).trans (h2 q a b)
theorem spU.refl (μ : mmMem) : spU μ μ := fun _ _ _ => eq3.rfl'
theorem spU.scr {μ ν : mmMem} (h : spU μ ν) : scr μ ν := ⟨fun q hq => h q (by omega) (by omega), by rw [(h 141 (by decide) (by decide)).1]⟩
theorem spC.fr {μ ν : mmMem} {l : List Int32} (h : spC μ l) (e0 : eq3 μ ν 144) (e1 : eq3 μ ν 145) : spC ν l := ⟨by rw [e0.1]; exact h.1, fun i x hx => by rw [e1.1]; exact h.2 i x hx⟩
/-! a stretch turned round -/
/-! numbers and words -/
/-! the cells -/
/-! the whole -/
