/-! ===== the law's end: its room, its frame ===== -/
theorem hasRoom_mono {s : State} {pl : Platform} {R R' : Room} (h : s.hasRoom pl R = true) (h1 : R'.frames ≤ R.frames) (h2 : R'.cells ≤ R.cells) (h3 : R'.slots ≤ R.slots) (h4 : R'.locals ≤ R.locals) : s.hasRoom pl R' = true := by
  unfold State.hasRoom at h ⊢
  simp only [Bool.and_eq_true, decide_eq_true_eq] at h ⊢
  obtain ⟨⟨⟨⟨a0, a1, a2, a3, a4, a5⟩, b0⟩, c0⟩, d0⟩ := h
  exact ⟨⟨⟨⟨by omega, by omega, by omega, by omega, by omega, a5⟩, by omega⟩, by omega⟩, d0⟩
section EndLaw
variable {p : Program} {l : Launch} {e : Env} {R R' : Room} {s : State} {m : MethodId} {args : Array Value} {below : List Frame} {meth : Method} {c : Code} {H : Heap} {locs : List Loc} {cells slots : Nat} {Q Q' : State → Prop} {g9 : JFrame}
theorem W_room (h1 : R'.frames ≤ R.frames) (h2 : R'.cells ≤ R.cells) (h3 : R'.slots ≤ R.slots) (h4 : R'.locals ≤ R.locals) (k : W p l e R' s m args below meth c H locs cells slots Q g9) : W p l e R s m args below meth c H locs cells slots Q g9 := fun T hT X => k T hT ⟨X.admits, X.cas, X.clock, X.frames, hasRoom_mono X.room h1 h2 h3 h4, X.hears, X.method, X.code, X.here, X.tail, X.warmed, X.limits, X.bytes, X.same⟩
theorem W_imp (h : ∀ t, Q t → Q' t) (k : W p l e R s m args below meth c H locs cells slots Q g9) : W p l e R s m args below meth c H locs cells slots Q' g9 := fun T hT X => by
  obtain ⟨t, a1, b1⟩ := k T hT X
  exact ⟨t, a1, h t b1⟩
theorem end_lw {g : yG} {a : Nat → Nat} {mf : zM} {t : State} (hg : g.2.2.1 = s.heap.size) (h : vx_MQ below (y_Qc g (zQ g a (.inl (some (zi 1))) mf)) (y_XC g (zQ g a (.inl (some (zi 1))) mf)) args s 603072 7202921 (y_A g) t) : lw_Z below args s t := by
  obtain ⟨o, b1, b2, b3⟩ := h
  rcases b3 with ⟨⟨⟨r, M, e1, -, e2, -⟩, -⟩, L9, ⟨f1, f2, f3⟩, hfr⟩ | ⟨q, -, hx⟩
  · have e3 : r = some (vi 1) := Sum.inl.inj e2.1
    subst e3
    refine ⟨o, b1, b2, e1, ?_⟩
    have f4 : s.sameButNew ({ t with vm := s.vm } : State) [] 603072 7202921 := State.sameButNew.drop_fresh (L := []) (J := L9) f3 (fun x hx => by rw [← hg]; exact hfr x hx)
    exact lw_closed (d0 := s.drawn) (Drawn.sameBut.refl s.drawn lw_cs) f1 f2 f4
  · obtain ⟨E, -, -, ⟨⟨M, h9, -⟩, -⟩, -⟩ := hx
    exact nomatch h9.1
end EndLaw
