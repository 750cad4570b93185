/-! ===== the law's end: its room, its frame ===== -/
theorem hasRoom_mono {s : State} {pl : Platform} {R R' : Room} (h : s.hasRoom pl R = true) (h1 : R'.frames ≤ R.frames) (h2 : R'.cells ≤ R.cells) (h3 : R'.slots ≤ R.slots) (h4 : R'.locals ≤ R.locals) : s.hasRoom pl R' = true := by
  unfold State.hasRoom at h ⊢
  simp only [Bool.and_eq_true, decide_eq_true_eq] at h ⊢
  obtain ⟨⟨⟨⟨a0, a1, a2, a3, a4, a5⟩, b0⟩, c0⟩, d0⟩ := h
  exact ⟨⟨⟨⟨by omega, by omega, by omega, by omega, by omega, a5⟩, by omega⟩, by omega⟩, d0⟩
section EndLaw
variable {p : Program} {l : Launch} {e : Env} {R R' : Room} {s : State} {m : MethodId} {args : Array Value} {below : List Frame} {meth : Method} {c : Code} {H : Heap} {locs : List Loc} {cells slots : Nat} {Q Q' : State → Prop} {g9 : JFrame}
theorem W_room (h1 : R'.frames ≤ R.frames) (h2 : R'.cells ≤ R.cells) (h3 : R'.slots ≤ R.slots) (h4 : R'.locals ≤ R.locals) (k : W p l e R' s m args below meth c H locs cells slots Q g9) : W p l e R s m args below meth c H locs cells slots Q g9 := fun T hT X => k T hT ⟨X.admits, X.cas, X.clock, X.frames, hasRoom_mono X.room h1 h2 h3 h4, X.hears, X.method, X.code, X.here, X.tail, X.warmed, X.limits, X.bytes, X.same⟩
theorem W_imp (h : ∀ t, Q t → Q' t) (k : W p l e R s m args below meth c H locs cells slots Q g9) : W p l e R s m args below meth c H locs cells slots Q' g9 := fun T hT X => by
  obtain ⟨t, a1, b1⟩ := k T hT X
  exact ⟨t, a1, h t b1⟩
theorem end_lw {g : yG} {Q9 : yOut → yMem → Prop} {t : State} (hg : g.2.2.1 = s.heap.size) (hq : ∀ o M, Q9 o M → o = .inl (some (vi 1))) (h : vx_MQ below (y_Qc g Q9) (y_XC g Q9) args s 603072 7202921 (y_A g) t) : lw_Z below args s t := by
  obtain ⟨o, b1, b2, b3⟩ := h
  rcases b3 with ⟨⟨⟨r, M, e1, -, e2, -⟩, -⟩, L9, ⟨f1, f2, f3⟩, hfr⟩ | ⟨q, -, hx⟩
  · have e3 : r = some (vi 1) := Sum.inl.inj (hq _ _ e2)
    subst e3
    refine ⟨o, b1, b2, e1, ?_⟩
    have f4 : s.sameButNew ({ t with vm := s.vm } : State) [] 603072 7202921 := State.sameButNew.drop_fresh (L := []) (J := L9) f3 (fun x hx => by rw [← hg]; exact hfr x hx)
    exact lw_closed (d0 := s.drawn) (Drawn.sameBut.refl s.drawn lw_cs) f1 f2 f4
  · obtain ⟨E, -, -, ⟨⟨M, h9, -⟩, -⟩, -⟩ := hx
    exact nomatch hq _ _ h9
theorem mq_imp {g : yG} {Q9 Q8 : yOut → yMem → Prop} {mc ms : Nat} {t : State} (hq : ∀ o M, Q9 o M → Q8 o M) (h : vx_MQ below (y_Qc g Q9) (y_XC g Q9) args s mc ms (y_A g) t) : vx_MQ below (y_Qc g Q8) (y_XC g Q8) args s mc ms (y_A g) t := by
  obtain ⟨o, b1, b2, b3⟩ := h
  refine ⟨o, b1, b2, ?_⟩
  rcases b3 with ⟨⟨⟨r, M, e1, e2, e3, e4⟩, e5⟩, h9⟩ | ⟨q, h1, E, ce, L9, ⟨⟨M, e3, e4⟩, e5⟩, h9⟩
  · exact Or.inl ⟨⟨⟨r, M, e1, e2, hq _ _ e3, e4⟩, e5⟩, h9⟩
  · exact Or.inr ⟨q, h1, E, ce, L9, ⟨⟨M, hq _ _ e3, e4⟩, e5⟩, h9⟩
theorem y_imp {g : yG} {me : yM0} {d kc ks pc : Nat} {L : List (Nat × yV)} {S : List yV} {M : yMem} {Q9 Q8 : yOut → yMem → Prop} (hq : ∀ o M, Q9 o M → Q8 o M) (h : Y g me d kc ks pc L S M Q9) : Y g me d kc ks pc L S M Q8 := by
  intro p l e s m args below meth c H locs cells slots mc ms ls C h1 h2 hM hL hS' hP hD hS hlv
  exact W_imp (fun t => mq_imp hq) (h p l e s m args below meth c H locs cells slots mc ms ls C h1 h2 hM hL hS' hP hD hS hlv)
end EndLaw
