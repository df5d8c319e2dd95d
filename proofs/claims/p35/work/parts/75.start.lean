/-! ===== the law from its entry ===== -/
theorem lw_roomM {s : State} {pl : Platform} {r r' : Room} (hf : r.frames ≤ r'.frames) (hl : r.locals ≤ r'.locals) (hc : r.cells ≤ r'.cells) (hs : r.slots ≤ r'.slots) (h : s.hasRoom pl r' = true) : s.hasRoom pl r = true := by
  simp only [State.hasRoom, Bool.and_eq_true, decide_eq_true_eq] at h ⊢
  obtain ⟨⟨⟨⟨h1, h2, h3, h4, h5, h6⟩, h7⟩, h8⟩, h9⟩ := h
  refine ⟨⟨⟨⟨?_, ?_, ?_, ?_, ?_, h6⟩, ?_⟩, ?_⟩, h9⟩ <;> omega
theorem lw_fit {p : Program} {l : Launch} {e : Env} {R R' : Room} {s : State} {m : MethodId} {args : Array Value} {below : List Frame} {meth : Method} {c : Code} {H : Heap} {locs : List Loc} {k z : Nat} {Q Q' : State → Prop} {g : JFrame} (hf : R.frames ≤ R'.frames) (hl : R.locals ≤ R'.locals) (hc : R.cells ≤ R'.cells) (hs : R.slots ≤ R'.slots) (hQ : ∀ t, Q t → Q' t) (h : W p l e R s m args below meth c H locs k z Q g) : W p l e R' s m args below meth c H locs k z Q' g := by
  intro T hT X
  obtain ⟨t, a1, b1⟩ := h T hT { X with room := lw_roomM hf hl hc hs X.room }
  exact ⟨t, a1, hQ t b1⟩
theorem lw_sbn {s t : State} {L : List Loc} {k z : Nat} (h : s.sameButNew t L k z) (hL : ∀ q ∈ L, s.heap.size ≤ q.base) : s.sameButNew t [] k z := by
  obtain ⟨h1, h2, h3, h4, h5, h6⟩ := h
  refine ⟨h1, h2, h3, h4, h5, fun a c hc => ?_⟩
  obtain ⟨c', g1, g2, g3, g4⟩ := h6 a c hc
  refine ⟨c', g1, g2, g3, fun i _ => g4 i (fun hm => ?_)⟩
  have h9 : s.heap.size ≤ a := hL _ hm
  have h10 := (Array.getElem?_eq_some_iff.mp hc).1
  omega
theorem lw_post {below : List Frame} {b : Nat} {s t : State} (h : MQ below lwQ #[Value.ref b] s 680218 7061593 (fun q => s.heap.size ≤ q) t) : lw_Z below #[Value.ref b] s t := by
  obtain ⟨o, h1, h2, h3, L, ⟨hv, hW, hf⟩, hL⟩ := h
  have h3 : o = .returned (some (.int 1)) := h3
  subst h3
  exact ⟨_, h1, h2, rfl, lw_closed (d0 := s.drawn) (Drawn.sameBut.refl s.drawn lw_cs) ⟨_, rfl⟩ hW (lw_sbn hf hL)⟩
theorem whole_start {p : Program} {e : Env} {s : State} {m : MethodId} {below : List Frame} {meth : Method} {c : Code} (l : Launch) (hflags : l.flags = flags0) {b L : Nat} {xs : Nat → Int32} (hL : L ≤ 260) (C0 : lw_At p s m meth c b L xs) : W p l e room_1 s m #[Value.ref b] below meth c s.heap [] 0 0 (lw_Z below #[Value.ref b] s) (entryFrame m ([Value.ref b] : List Value).toArray 12) := by
  obtain ⟨sk, sv, D, cA, hS⟩ := lw_world C0
  obtain ⟨hx, hb, hr, hml, hown, hts, hX, hbl, hlk, hgv⟩ := id C0
  have htm : ∀ w ∈ mmT, w.before #[Value.ref b] s = true := fun w hw => hts w (List.mem_filter.mp hw).1
  rw [lg_entry_eq]
  have hen := lv_entry [Value.ref b] (n := 12) (by rw [sc_sl _ (by simp [Value.category])]; exact (by simp))
  generalize (lg_sl [Value.ref b] ++ List.replicate (12 - (lg_sl [Value.ref b]).length) Slot.unset).toArray = ls at hen ⊢
  have hls : scLs ls 12 ([Value.ref b] ++ List.replicate 11 (.retAddr 7)) := ⟨_, hen, fun i v h1 h2 => by simpa using scLo_mem [Value.ref b] 0 (by simp [Value.category]) 11 i v h1 h2⟩
  have hH0 : ctH s.heap.size s.heap D 0 (fun _ => .inr (0, [])) s.heap := ⟨rfl, fun q _ => rfl, fun k q hk => absurd (ctWd_inv hk).1 (by omega)⟩
  refine lw_fit (R := ctR 14 680218 7061593) (by decide +kernel) (by decide +kernel) (by decide +kernel) (by decide +kernel) (fun t => lw_post) ?_
  exact lw_l0 (l := l) (G := (s.heap.size, s.heap, sk, sv, D, cA, b, L, xs)) (es := fun _ => .inr (0, [])) (show L < 2 ^ 31 by omega) p e s m #[Value.ref b] below meth c s.heap [] ls hx hb hr hml hown htm hlk (fun h => absurd h (by decide)) hS hls hH0 va_S.rf ⟨Nat.le_refl _, fun _ => Nat.le_refl _⟩
