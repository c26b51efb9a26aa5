/-! the table of sets, that nobody writes -/
def sets : List Nat := [1, 2, 4, 8, 16, 32, 3, 5, 6, 9, 10, 12, 17, 18, 20, 24, 33, 34, 36, 40, 48, 7, 11, 13, 14, 19, 21, 22, 25, 26, 28, 35, 37, 38, 41, 42, 44, 49, 50, 52, 56, 15, 23, 27, 29, 30, 39, 43, 45, 46, 51, 53, 54, 57, 58, 60, 31, 47, 55, 59, 61, 62, 63]
/-- at the law's start the table lies there -/
def zSt (Γ : zC) : Prop := ∃ t : Nat, va_Z "RoadBoards$Climber" "SETS" "[I" (.ref t) (zA Γ) Γ.2.2.2.2 Γ.2.2.2.2.heap ∧ va_T .int t 63 (fun j => .int (iz ((sets.getD j 0 : Nat) : Int))) (zA Γ) Γ.2.2.2.2 Γ.2.2.2.2.heap
section Z80
variable {Γ : zC} {Q : zQ} {M : zM} {L : zL} {st : List zV}
theorem zst_at {p : Program} {s : State} {m : MethodId} {args : Array Value} {meth : Method} {c : Code} {μ : Nat} (hst : zSt Γ) (hX : zCx Γ μ p s m args meth c) : ∃ t : Nat, va_Z "RoadBoards$Climber" "SETS" "[I" (.ref t) (zA Γ) s s.heap ∧ va_T .int t 63 (fun j => .int (iz ((sets.getD j 0 : Nat) : Int))) (zA Γ) s s.heap := by
  obtain ⟨t, hZ, hT⟩ := hst
  have hal := hX.2.2.2.2.2.2.2.2.2.1.alike
  have hq := hX.2.2.2.2.2.2.2.2.2.2
  exact ⟨t, (hZ.moved hal).kept (fun a ha _ => hq a ha), (hT.moved hal).kept (fun a ha _ => hq a ha)⟩
theorem zlinkS {args : Array Value} {s : State} (h : ∀ w ∈ WS, w.before args s = true) : (Cond.fieldLink "RoadBoards$Climber" 36 "RoadBoards$Climber" "SETS" "[I").before args s = true := h _ (zi5 145 (by decide +kernel) (by decide +kernel))
theorem sp_14_31 (hst : zSt Γ) (h : zGo Γ 14 Q 35 L (zi 63 :: st) M) : zGo Γ 14 Q 31 L st M := by
  intro p e s m args below meth c H locs ls hG hX hP hS hL hl hLo hok
  obtain ⟨t, hZ, hT⟩ := zst_at hst hX
  have k := h p e s m args below meth c H locs ls hG hX hP hS hL hl hLo (fun v hv => by
    rcases List.mem_cons.mp hv with e | e
    · subst e
      intro q hq
      cases hq
    · exact hok v e)
  refine va_gets hX.1 hX.2.1 hZ hS hX.2.2.2.1 (zlinkS hX.2.2.2.2.1) (fun x hx => hx) (by decide +kernel) ?_
  exact va_tlen hX.1 hX.2.1 hT hS rfl (by decide +kernel) k
theorem sp_14_38 {x : Int32} (hst : zSt Γ) (hx : zld L 2 = some (zi x)) (hin : vp_in x 63) (h : zGo Γ 14 Q 43 L (zi (iz ((sets.getD x.toNatClampNeg 0 : Nat) : Int)) :: st) M) : zGo Γ 14 Q 38 L st M := by
  intro p e s m args below meth c H locs ls hG hX hP hS hL hl hLo hok
  obtain ⟨t, hZ, hT⟩ := zst_at hst hX
  have k := h p e s m args below meth c H locs ls hG hX hP hS hL hl hLo (fun v hv => by
    rcases List.mem_cons.mp hv with e | e
    · subst e
      intro q hq
      cases hq
    · exact hok v e)
  refine va_gets hX.1 hX.2.1 hZ hS hX.2.2.2.1 (zlinkS hX.2.2.2.2.1) (fun x hx => hx) (by decide +kernel) ?_
  exact lv_iload_n hX.1 hX.2.1 (by decide +kernel : decode (zm 14).2.1 (38 + 3) = .ok (.iload_n 2, 1)) rfl (hL.2.2 2 _ hx) (va_ti hX.1 hX.2.1 hT hS hin rfl (by decide +kernel) k)
end Z80
theorem bk_14_0 {Γ : zC} {Q : zQ} {M : zM} {t0 : Nat} {t1 : Nat} (h : zGo Γ 14 Q 2 [some (zo 1 t0 0), some (zo 7 t1 0), some (zi (0 : Int32)), none] [] (M)) : zGo Γ 14 Q 0 [some (zo 1 t0 0), some (zo 7 t1 0), none, none] [] M := zgo 47 [(2, [true, true, true, false]), (30, [true, true, true, false]), (31, [true, true, true, false]), (38, [true, true, true, false])] rfl (tb := ztb14) rfl h
theorem bk_14_2 {Γ : zC} {Q : zQ} {M : zM} {t0 : Nat} {t1 : Nat} {x2 : Int32} (h : ((((M).1 7 t1 0 1) ≤ x2 → zGo Γ 14 Q 30 [some (zo 1 t0 0), some (zo 7 t1 0), some (zi (0 : Int32)), none] [] (M)) ∧ (¬ ((M).1 7 t1 0 1) ≤ x2 → (zEv Γ 15 [zo 1 t0 0, zo 7 t1 0, zi x2] (M) (fun o M1 => ∃ r1, o = some (zi r1) ∧ (vp_in x2 7 ∧ zGo Γ 14 Q 2 [some (zo 1 t0 0), some (zo 7 t1 0), some (zi (x2 + (1 : Int32))), none] [] (zw (M1) 1 t0 2 (x2).toNatClampNeg r1))))))) : zGo Γ 14 Q 2 [some (zo 1 t0 0), some (zo 7 t1 0), some (zi x2), none] [] M := zgo 47 [(2, [true, true, true, false]), (30, [true, true, true, false]), (31, [true, true, true, false]), (38, [true, true, true, false])] rfl (tb := ztb14) rfl h
theorem bk_14_30 {Γ : zC} {Q : zQ} {M : zM} {t0 : Nat} {t1 : Nat} {x2 : Int32} (h : zGo Γ 14 Q 31 [some (zo 1 t0 0), some (zo 7 t1 0), some (zi x2), none] [zi x2] (M)) : zGo Γ 14 Q 30 [some (zo 1 t0 0), some (zo 7 t1 0), some (zi x2), none] [] M := zgo 47 [(2, [true, true, true, false]), (30, [true, true, true, false]), (31, [true, true, true, false]), (38, [true, true, true, false])] rfl (tb := ztb14) rfl h
theorem bk_14_35 {Γ : zC} {Q : zQ} {M : zM} {t0 : Nat} {t1 : Nat} {x2 : Int32} {sx0 : Int32} {sx1 : Int32} (h : ((sx0 ≤ sx1 → Q (some (zi (0 : Int32))) (M)) ∧ (¬ sx0 ≤ sx1 → zGo Γ 14 Q 38 [some (zo 1 t0 0), some (zo 7 t1 0), some (zi x2), none] [] (M)))) : zGo Γ 14 Q 35 [some (zo 1 t0 0), some (zo 7 t1 0), some (zi x2), none] [zi sx0, zi sx1] M := zgo 47 [(2, [true, true, true, false]), (30, [true, true, true, false]), (31, [true, true, true, false]), (38, [true, true, true, false])] rfl (tb := ztb14) rfl h
theorem bk_14_43 {Γ : zC} {Q : zQ} {M : zM} {t0 : Nat} {t1 : Nat} {x2 : Int32} {sx0 : Int32} (h : ((((1 : Int32) <<< (((M).1 7 t1 0 0) &&& 31)) ≤ sx0 → zGo Γ 14 Q 30 [some (zo 1 t0 0), some (zo 7 t1 0), some (zi (x2 + (1 : Int32))), none] [] (M)) ∧ (¬ ((1 : Int32) <<< (((M).1 7 t1 0 0) &&& 31)) ≤ sx0 → (zEv Γ 16 [zo 1 t0 0, zo 7 t1 0, zi sx0] (M) (fun o M1 => ∃ r1, o = some (zi r1) ∧ (zEv Γ 254 [zi sx0] (M1) (fun o M2 => ∃ r2, o = some (zi r2) ∧ ((r1 ≤ r2 → zGo Γ 14 Q 30 [some (zo 1 t0 0), some (zo 7 t1 0), some (zi (x2 + (1 : Int32))), none] [] (M2)) ∧ (¬ r1 ≤ r2 → Q (some (zi sx0)) (M2)))))))))) : zGo Γ 14 Q 43 [some (zo 1 t0 0), some (zo 7 t1 0), some (zi x2), none] [zi sx0] M := zgo 47 [(2, [true, true, true, false]), (30, [true, true, true, false]), (31, [true, true, true, false]), (38, [true, true, true, false])] rfl (tb := ztb14) rfl h
theorem en_14 {Γ : zC} {Q : zQ} {M : zM} {t0 : Nat} {t1 : Nat} (h : zGo Γ 14 Q 0 [some (zo 1 t0 0), some (zo 7 t1 0), none, none] [] M) : zEv Γ 14 [zo 1 t0 0, zo 7 t1 0] M Q := zev_in rfl rfl h
