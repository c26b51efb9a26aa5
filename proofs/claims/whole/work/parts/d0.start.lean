/-! the law's start -/
theorem k_inst : ∀ c, c < 11 → Cond.instantiable (zR c) (zN c) ∈ WS := fun c hc => by
  match c, hc with
  | 0, _ => exact zi2 85 (by decide +kernel) (by decide +kernel)
  | 1, _ => exact zi2 135 (by decide +kernel) (by decide +kernel)
  | 2, _ => exact zi1 215 (by decide +kernel) (by decide +kernel)
  | 3, _ => exact zi2 59 (by decide +kernel) (by decide +kernel)
  | 4, _ => exact zi2 114 (by decide +kernel) (by decide +kernel)
  | 5, _ => exact zi1 175 (by decide +kernel) (by decide +kernel)
  | 6, _ => exact zi2 16 (by decide +kernel) (by decide +kernel)
  | 7, _ => exact zi1 35 (by decide +kernel) (by decide +kernel)
  | 8, _ => exact zi1 28 (by decide +kernel) (by decide +kernel)
  | 9, _ => exact zi1 20 (by decide +kernel) (by decide +kernel)
  | 10, _ => exact zi5 179 (by decide +kernel) (by decide +kernel)
theorem k_vlen : vwCl.length = 11 := by decide +kernel
theorem k_prim {args : Array Value} {s : State} {ty : FieldType} (h : (Cond.arrayClass ty).before args s = true) (hra : ∀ (U : State) (cA : ClassId), U.vm.findClass ("[" ++ ty.toString) = some cA → va_RA U cA ty) : ∃ cA : ClassId, ArrOfT s cA ty ∧ va_RA s cA ty := by
  obtain ⟨cA, kA, comp, h1, h2, h3⟩ := Cond.arrayClass_spec h
  exact ⟨cA, fun n z => ⟨fun k h => (by cases h), kA, h2, comp, h3⟩, hra s cA h1⟩
theorem k_objs {args : Array Value} {s : State} {C : String} (h : (Cond.arrayOver (.object C)).before args s = true) : ∃ cA : ClassId, ArrOfT s cA (.object C) ∧ va_RA s cA (.object C) := by
  obtain ⟨comp, cA, kA, h1, -, h2, h3, h4⟩ := Cond.arrayOver_spec h
  exact ⟨cA, fun n z => ⟨fun k h => (by cases h), kA, h2, comp, h3⟩, kA, comp, h2, h3, h1, h4⟩
theorem st_t1 (i : Nat) {w : Cond} (h : tables_1_1[i]? = some w) : w ∈ lw_tbl := List.mem_append_right _ (List.mem_append_left _ (List.mem_of_getElem? h))
theorem k_known {p : Program} {s : State} {m : MethodId} {meth : Method} {c : Code} {b L : Nat} {xs : Nat → Int32} (hA : lw_At p s m meth c b L xs) : ∃ (D : va_G) (ac : Nat → ClassId), ∀ (l : Launch) (ad : Nat × Nat × Nat → Nat), va_K D vwCl (ztys (l, D, ac, ad, s)) s := by
  have ht := hA.2.2.2.2.2.1
  have hW : ∀ w ∈ WS, w.before #[Value.ref b] s = true := fun w hw => ht w (List.mem_filter.mp hw).1
  have h11 : ∀ c : Nat, ∃ q : ClassId × (Nat → Nat), c < 11 → u_Kn s (zR c) (zT c) (zN c) q.1 q.2 := fun c => by
    by_cases hc : c < 11
    · obtain ⟨cC, iS, h⟩ := u_known hW (zinW hc) (hW _ (k_inst c hc))
      exact ⟨(cC, iS), fun _ => h⟩
    · exact ⟨(0, fun _ => 0), fun h => absurd h hc⟩
  obtain ⟨f, hf⟩ := Classical.axiomOfChoice h11
  obtain ⟨a0, g0⟩ := k_prim (ty := .int) (hW _ (zi1 146 (by decide +kernel) (by decide +kernel))) (fun _ _ h => h)
  obtain ⟨a1, g1⟩ := k_prim (ty := .long) (hW _ (zi2 112 (by decide +kernel) (by decide +kernel))) (fun _ _ h => h)
  obtain ⟨a2, g2⟩ := k_prim (ty := .boolean) (hW _ (zi1 213 (by decide +kernel) (by decide +kernel))) (fun _ _ h => h)
  obtain ⟨a3, g3⟩ := k_prim (ty := .byte) (hW _ (zi1 145 (by decide +kernel) (by decide +kernel))) (fun _ _ h => h)
  obtain ⟨a4, g4⟩ := k_objs (C := RX7) (ht _ (st_t1 34 (by decide +kernel)))
  obtain ⟨a5, g5⟩ := k_objs (C := RX8) (ht _ (st_t1 173 (by decide +kernel)))
  refine ⟨(fun c => (f c).1, fun c => (f c).2), fun k => [a0, a1, a2, a3, a4, a5].getD k a0, fun l ad => ⟨fun k q hq => ?_, fun k q hq => ?_⟩⟩
  · have hk : k < 11 := by
      have := (List.getElem?_eq_some_iff.mp hq).1
      rw [k_vlen] at this
      exact this
    rw [zcl hk] at hq
    cases hq
    exact hf k hk
  · have hk : k < 6 := (List.getElem?_eq_some_iff.mp hq).1
    match k, hk with
    | 0, _ => cases hq; exact g0
    | 1, _ => cases hq; exact g1
    | 2, _ => cases hq; exact g2
    | 3, _ => cases hq; exact g3
    | 4, _ => cases hq; exact g4
    | 5, _ => cases hq; exact g5
theorem k_nest {p : Program} {s : State} {m : MethodId} {meth : Method} {c : Code} {b L : Nat} {xs : Nat → Int32} (hA : lw_At p s m meth c b L xs) : kN s := by
  have ht := hA.2.2.2.2.2.1
  have hq : ∀ e ∈ kNest, Cond.methodLinkNest (zR e.1) e.2.1 (kIn e.2.2) "RoadBoards" ∈ lw_tbl := by
    unfold kNest
    refine List.forall_mem_cons.mpr ⟨st_t1 36 (by decide +kernel), ?_⟩
    refine List.forall_mem_cons.mpr ⟨st_t1 176 (by decide +kernel), ?_⟩
    refine List.forall_mem_cons.mpr ⟨st_t1 181 (by decide +kernel), ?_⟩
    refine List.forall_mem_cons.mpr ⟨st_t1 216 (by decide +kernel), ?_⟩
    refine List.forall_mem_cons.mpr ⟨st_t2 17 (by decide +kernel), ?_⟩
    refine List.forall_mem_cons.mpr ⟨st_t2 22 (by decide +kernel), ?_⟩
    refine List.forall_mem_cons.mpr ⟨st_t2 60 (by decide +kernel), ?_⟩
    refine List.forall_mem_cons.mpr ⟨st_t2 86 (by decide +kernel), ?_⟩
    refine List.forall_mem_cons.mpr ⟨st_t2 91 (by decide +kernel), ?_⟩
    refine List.forall_mem_cons.mpr ⟨st_t2 115 (by decide +kernel), ?_⟩
    refine List.forall_mem_cons.mpr ⟨st_t2 120 (by decide +kernel), ?_⟩
    refine List.forall_mem_cons.mpr ⟨st_t2 136 (by decide +kernel), ?_⟩
    exact fun _ h9 => absurd h9 List.not_mem_nil
  exact ⟨fun e he => va_Nw.of rfl (ht _ (hq e he)), va_AO.of (ht _ (st_t1 34 (by decide +kernel))), va_AO.of (ht _ (st_t1 173 (by decide +kernel)))⟩
theorem k_a1 {Γ : zC} {κ : kX} {own : String} {cc : ByteArray} {h z cells slots n pc pc' a : Nat} {F : Nat → va_E} {ls : Array Slot} {st : List Value} {i : Fin 4} {lv lv' : List (Nat × Value)} (C : kC Γ κ own cc 4 h z) (hl : lv_has ls 4 lv) (hv : ((i : Nat), Value.ref a) :: lv.filter (fun q => !(q.1 == (i : Nat)) && !(q.1 + 1 == (i : Nat) && q.2.category == 2)) = lv') (d : decode cc pc = .ok (.astore_n i, 1)) (e : pc' = pc + 1) (k : ∀ ls' : Array Slot, lv_has ls' 4 lv' → kG Γ κ h cells slots n F pc' ls' st) : kG Γ κ h cells slots n F pc ls (.ref a :: st) := by
  obtain ⟨p, e', s, m, args, below, meth, c, R, Q⟩ := κ
  subst e
  exact fun H locs hP hS => lv_astore_n C.1 C.2.1 d rfl hl i.isLt hv (fun ls' hl' => k ls' hl' H locs hP hS)
theorem whole_start {p : Program} {e : Env} {s : State} {m : MethodId} {below : List Frame} {meth : Method} {c : Code} (l : Launch) {b L : Nat} {xs : Nat → Int32} (hL : L ≤ 3072) (C0 : lw_At p s m meth c b L xs) : W p l e room_1 s m #[Value.ref b] below meth c s.heap [] 0 0 (lw_Z below #[Value.ref b] s) (entryFrame m ([Value.ref b] : List Value).toArray 4) := by
  obtain ⟨D, ac, hK⟩ := k_known C0
  have hN := k_nest C0
  have ht := C0.2.2.2.2.2.1
  have hW : ∀ w ∈ WS, w.before #[Value.ref b] s = true := fun w hw => ht w (List.mem_filter.mp hw).1
  generalize hΓ : ((l, D, ac, kad s.heap.size, s) : zC) = Γ
  have hK : va_K Γ.2.1 vwCl (ztys Γ) s := by rw [← hΓ]; exact hK l _
  have hs : Γ.2.2.2.2 = s := by rw [← hΓ]
  have hG : zG Γ := by
    rw [← hΓ]
    exact ⟨fun p hp q hq e => kad_inj hp hq e, fun p hp => by show s.heap.size ≤ kad s.heap.size p; rw [kad_idx]; exact Nat.le_add_right _ _⟩
  have hl := lv_entry ([Value.ref b]) (n := 4) (Nat.le_of_ble_eq_true rfl)
  rw [lg_entry_eq]
  generalize (lg_sl ([Value.ref b]) ++ List.replicate (4 - (lg_sl ([Value.ref b])).length) Slot.unset).toArray = ls at hl ⊢
  have hl : lv_has ls 4 [(0, .ref b)] := hl
  have C : kC Γ (p, e, s, m, #[Value.ref b], below, meth, c, room_1, lw_Z below #[Value.ref b] s) R_law code 4 s.heap.size 0 := ⟨C0.1, C0.2.1, C0.2.2.2.1, C0.2.2.2.2.1, hW, hK, hN, rfl⟩
  have hl1 : Γ.1 = l := by rw [← hΓ]
  have key : kG Γ (p, e, s, m, #[Value.ref b], below, meth, c, room_1, lw_Z below #[Value.ref b] s) s.heap.size 0 0 0 (k0 9) 0 ls [] := by
    refine k_nw C (c1 := 9) (by decide) (zi1 19 (by decide +kernel) (by decide +kernel)) (k_inst 9 (by decide)) (zi1 1 (by decide +kernel) (by decide +kernel)) ⟨rfl, Nat.le_of_ble_eq_true rfl, Nat.le_of_ble_eq_true rfl⟩ dLw_0 (pc' := 3) rfl (cells' := 1) rfl (slots' := 10) rfl (n' := 1) rfl ?_
    refine k_du C dLw_3 (pc' := 4) rfl ?_
    refine k_cP C hl.1 (c1 := 9) (i := 0) (m_i9 Γ _) (zi1 23 (by decide +kernel) (by decide +kernel)) (zi1 1 (by decide +kernel) (by decide +kernel)) (zi1 22 (by decide +kernel) (by decide +kernel)) (zi1 21 (by decide +kernel) (by decide +kernel)) ⟨by decide, by decide⟩ ⟨Nat.le_of_ble_eq_true rfl, Nat.le_of_ble_eq_true rfl⟩ rfl rfl ⟨Nat.le_of_ble_eq_true rfl, Nat.le_of_ble_eq_true rfl⟩ rfl rfl (Nat.le_of_ble_eq_true rfl) dLw_4 (pc' := 7) rfl (cells' := 232) rfl (slots' := 15869) rfl (n' := 232) rfl ?_
    refine k_a1 C (i := 1) hl rfl dLw_7 (pc' := 8) rfl ?_
    clear hl
    intro ls hl
    refine k_nw C (c1 := 10) (by decide) (zi5 178 (by decide +kernel) (by decide +kernel)) (k_inst 10 (by decide)) (zi1 11 (by decide +kernel) (by decide +kernel)) ⟨rfl, Nat.le_of_ble_eq_true rfl, Nat.le_of_ble_eq_true rfl⟩ dLw_8 (pc' := 11) rfl (cells' := 233) rfl (slots' := 15909) rfl (n' := 233) rfl ?_
    refine k_du C dLw_11 (pc' := 12) rfl ?_
    refine k_cP C hl.1 (c1 := 10) (i := 232) (m_i10 Γ _) (zi5 182 (by decide +kernel) (by decide +kernel)) (zi1 11 (by decide +kernel) (by decide +kernel)) (zi5 181 (by decide +kernel) (by decide +kernel)) (zi5 180 (by decide +kernel) (by decide +kernel)) ⟨by decide, by decide⟩ ⟨Nat.le_of_ble_eq_true rfl, Nat.le_of_ble_eq_true rfl⟩ rfl rfl ⟨Nat.le_of_ble_eq_true rfl, Nat.le_of_ble_eq_true rfl⟩ rfl rfl (Nat.le_of_ble_eq_true rfl) dLw_12 (pc' := 15) rfl (cells' := 252) rfl (slots' := 29881) rfl (n' := 252) rfl ?_
    refine k_a1 C (i := 2) hl rfl dLw_15 (pc' := 16) rfl ?_
    clear hl
    intro ls hl
    refine k_ic C (v := 0) dLw_16 (by decide) (pc' := 17) rfl ?_
    intro H locs hP hS
    refine lv_istore_n (lv' := [(3, .int (iz ((0 : Nat) : Int))), (2, .ref (Γ.2.2.2.1 (10, 0, 0))), (1, .ref (Γ.2.2.2.1 (9, 0, 0))), (0, .ref b)]) C.1 C.2.1 dLw_17 rfl hl (by decide) (by rw [← hΓ]; rfl) (fun ls' hl' => ?_)
    have hJ := l_loop (κ := (p, e, s, m, below, meth, c, b, 252, 29881)) (L := L) (xs := xs) (st_St C0 hs) (st_Sr C0 hs) ⟨C0, hG, hs, hK, hL, by decide, by decide⟩ (L + 6) 0 zM0 (by omega) (Nat.zero_le _) kInv0
    refine hJ H locs ls' ?_ ?_ hl'
    · have h1 : kW D s.heap.size 252 (kF (l, D, ac, kad s.heap.size, s) s.heap.size) H := by
        rw [← hΓ] at hP
        exact hP
      rw [← hΓ]
      exact kall h1
    · have e2 : (zA Γ) = (fun q => s.heap.size ≤ q) := by
        funext q
        unfold zA zb
        rw [hs]
      rw [e2]
      exact hS
  rw [← hl1]
  exact key s.heap [] (kW.of rfl (fun k hk => absurd hk (Nat.not_lt_zero _))) va_S.rf
