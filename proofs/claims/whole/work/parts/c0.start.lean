/-! what lies there at the law's start: the table of sets, the words -/
theorem st_nA {Γ : zC} {s : State} (hs : Γ.2.2.2.2 = s) : ∀ a : Nat, a < s.heap.size → ¬ zA Γ a := fun a h z => by
  have h2 : zb Γ ≤ a := z
  unfold zb at h2
  rw [hs] at h2
  omega
theorem st_el : ∀ j, j < 63 → Cond.eq (.elem (.static "RoadBoards$Climber" "SETS" "[I") (.int (Int32.ofNat j))) (.int (iz ((sets.getD j 0 : Nat) : Int))) ∈ flatC (Jvm.Cond.and given_1 narrow_1) := by decide +kernel
theorem st_t2 (i : Nat) {w : Cond} (h : tables_1_2[i]? = some w) : w ∈ lw_tbl := List.mem_append_right _ (List.mem_append_right _ (List.mem_append_left _ (List.mem_of_getElem? h)))
theorem st_t3 (i : Nat) {w : Cond} (h : tables_1_3[i]? = some w) : w ∈ lw_tbl := List.mem_append_right _ (List.mem_append_right _ (List.mem_append_right _ (List.mem_append_left _ (List.mem_of_getElem? h))))
theorem st_t5 (i : Nat) {w : Cond} (h : tables_1_5[i]? = some w) : w ∈ lw_tbl := List.mem_append_right _ (List.mem_append_right _ (List.mem_append_right _ (List.mem_append_right _ (List.mem_append_right _ (List.mem_append_left _ (List.mem_of_getElem? h))))))
theorem st_St {Γ : zC} {p : Program} {s : State} {m : MethodId} {meth : Method} {c : Code} {b L : Nat} {xs : Nat → Int32} (hA : lw_At p s m meth c b L xs) (hs : Γ.2.2.2.2 = s) : zSt Γ := by
  have hf := flat_of_before _ hA.2.2.2.2.2.2.2.2.2
  have ht := hA.2.2.2.2.2.1
  have hW : ∀ w ∈ WS, w.before #[Value.ref b] s = true := fun w hw => ht w (List.mem_filter.mp hw).1
  obtain ⟨t, h1, h2⟩ := va_Tof (N := 63) (ty := .int) (tm := .static "RoadBoards$Climber" "SETS" "[I") (f := fun j => .int (iz ((sets.getD j 0 : Nat) : Int))) (A := zA Γ) (by decide) (hf _ (by decide +kernel)) (va_eqt (hf _ (by decide +kernel))) (fun j hj => va_eqt (hf _ (st_el j hj))) (st_nA hs)
  refine ⟨t, ?_, ?_⟩
  · rw [hs]
    exact va_Zof (ht _ (st_t5 146 (by decide +kernel))) (hW _ (zi1 10 (by decide +kernel) (by decide +kernel))) h1 (st_nA hs)
  · rw [hs]
    exact h2
theorem st_wel : ∀ j, j < 78 → Cond.eq (.elem (.field (.string "RoadBoards$Reader" 85) "java/lang/String" "value" "[B") (.int (Int32.ofNat j))) (.int (wCh j)) ∈ flatC (Jvm.Cond.and given_1 narrow_1) := by decide +kernel
theorem st_Sr {Γ : zC} {p : Program} {s : State} {m : MethodId} {meth : Method} {c : Code} {b L : Nat} {xs : Nat → Int32} (hA : lw_At p s m meth c b L xs) (hs : Γ.2.2.2.2 = s) : zSr Γ := by
  have hf := flat_of_before _ hA.2.2.2.2.2.2.2.2.2
  have ht := hA.2.2.2.2.2.1
  have hW : ∀ w ∈ WS, w.before #[Value.ref b] s = true := fun w hw => ht w (List.mem_filter.mp hw).1
  have hex : (Cond.exactly (.string "RoadBoards$Reader" 85) "java/lang/String").before #[Value.ref b] s = true := hf _ (by decide +kernel)
  obtain ⟨q, k, cA, kA, q1, -⟩ := Cond.exactly_spec (args := #[Value.ref b]) (first := s) (o := none) (s := s) (idx := []) (t := .string "RoadBoards$Reader" 85) (cls := "java/lang/String") hex
  obtain ⟨v, h1, h2⟩ := va_Tof (N := 78) (ty := .byte) (tm := .field (.string "RoadBoards$Reader" 85) "java/lang/String" "value" "[B") (f := fun j => .int (wCh j)) (A := zA Γ) (by decide) (hf _ (by decide +kernel)) (va_eqt (hf _ (by decide +kernel))) (fun j hj => va_eqt (hf _ (st_wel j hj))) (st_nA hs)
  obtain ⟨fm, hfm, hr⟩ := Cond.isRef_spec (show (Cond.isRef (.static "jdk/internal/util/Preconditions" "SIOOBE_FORMATTER" "Ljava/util/function/BiFunction;")).before #[Value.ref b] s = true from hf _ (by decide +kernel))
  refine ⟨q, v, fm, ?_, ?_⟩
  · rw [hs]
    exact vk_R.of (ht _ (st_t2 217 (by decide +kernel))) q1
  · rw [hs]
    refine ⟨va_Zof (ht _ (st_t2 227 (by decide +kernel))) (hW _ (zi1 12 (by decide +kernel) (by decide +kernel))) (va_eqi (hf _ (by decide +kernel))) (st_nA hs), va_Oof hex q1 (st_nA hs), vk_OFof q1 (va_eqt (hf _ (by decide +kernel))) (st_nA hs), vk_OFof q1 h1 (st_nA hs), h2, va_Zof (ht _ (st_t3 3 (by decide +kernel))) (hW _ (zi1 14 (by decide +kernel) (by decide +kernel))) hfm (st_nA hs), ?_⟩
    cases fm <;> first | exact Or.inl rfl | exact Or.inr ⟨_, rfl⟩ | exact absurd hr (by simp [Value.isRef])
