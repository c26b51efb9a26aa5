/-! the String constant that the class's words stand in, and the library's length() and charAt() on it -/
def WB : List Nat := [98, 111, 97, 114, 100, 32, 98, 105, 100, 100, 101, 114, 32, 109, 97, 114, 107, 32, 112, 117, 114, 115, 101, 32, 101, 120, 116, 114, 97, 32, 115, 111, 114, 116, 32, 102, 114, 105, 101, 110, 100, 32, 102, 111, 101, 32, 119, 97, 121, 32, 98, 97, 114, 32, 111, 119, 110, 32, 110, 101, 120, 116, 32, 104, 97, 114, 109, 32, 109, 111, 114, 101, 32, 108, 101, 115, 115, 32]
def wCh (j : Nat) : Int32 := iz ((WB.getD j 0 : Nat) : Int)
def wTx : String := "board bidder mark purse extra sort friend foe way bar own next harm more less "
theorem wCh_255 : ∀ j, j < 78 → wCh j &&& 255 = wCh j := by decide +kernel
def sP (A : Nat → Prop) (q v : Nat) (fm : Value) (U : State) (H : Heap) : Prop := va_Z "java/lang/String" "COMPACT_STRINGS" "Z" (.int 1) A U H ∧ va_O "java/lang/String" q A U H ∧ va_OF "java/lang/String" "coder" "B" (.int 0) q A U H ∧ va_OF "java/lang/String" "value" "[B" (.ref v) q A U H ∧ va_T .byte v 78 (fun j => .int (wCh j)) A U H ∧ va_Z "jdk/internal/util/Preconditions" "SIOOBE_FORMATTER" "Ljava/util/function/BiFunction;" fm A U H ∧ (fm = .null ∨ ∃ a : Nat, fm = .ref a)
theorem sP.moved {A : Nat → Prop} {q v : Nat} {fm : Value} {u U : State} {H : Heap} (hvm : u.vm.Alike U.vm) (h : sP A q v fm u H) : sP A q v fm U H := ⟨h.1.moved hvm, h.2.1.moved hvm, h.2.2.1.moved hvm, h.2.2.2.1.moved hvm, h.2.2.2.2.1.moved hvm, h.2.2.2.2.2.1.moved hvm, h.2.2.2.2.2.2⟩
theorem sP.kept {A : Nat → Prop} {q v : Nat} {fm : Value} {U : State} {H H1 : Heap} (h : sP A q v fm U H) (hq : ∀ a : Nat, a < H.size → ¬ A a → H1[a]? = H[a]?) : sP A q v fm U H1 := ⟨h.1.kept hq, h.2.1.kept hq, h.2.2.1.kept hq, h.2.2.2.1.kept hq, h.2.2.2.2.1.kept hq, h.2.2.2.2.2.1.kept hq, h.2.2.2.2.2.2⟩
def sQ (o : Option Value) : Array Value → State → Outcome → State → Prop := fun _ st oc t => oc = .returned o ∧ t.heap = st.heap
theorem sblind (A : Nat → Prop) (q v : Nat) (fm : Value) (av : List Value) : FrameBlind (va_Pc av (fun U => sP A q v fm U U.heap)) := fun a U g mk z => ⟨z.1, sP.moved (u := U) (U := U.calling g mk a) (Vm.Alike.refl U.vm) z.2⟩
theorem sgood {w : Cond} (h : w ∈ WS) : GoodIn WS (w :: WS) := fun x hx => by
  have : x ∈ WS := by
    rcases List.mem_cons.mp hx with e | e
    · rw [e]; exact h
    · exact e
  exact ⟨this, good_of_word (zWSg x this)⟩
def yS_length : MethodName := { cls := "java/lang/String", name := "length", desc := "()I" }
def yS_coder : MethodName := { cls := "java/lang/String", name := "coder", desc := "()B" }
def yS_charAt : MethodName := { cls := "java/lang/String", name := "charAt", desc := "(I)C" }
def yS_isLatin1 : MethodName := { cls := "java/lang/String", name := "isLatin1", desc := "()Z" }
def yS_lcharAt : MethodName := { cls := "java/lang/StringLatin1", name := "charAt", desc := "([BI)C" }
def yS_check : MethodName := { cls := "java/lang/String", name := "checkIndex", desc := "(II)V" }
def yS_pcheck : MethodName := { cls := "jdk/internal/util/Preconditions", name := "checkIndex", desc := "(IILjava/util/function/BiFunction;)I" }
section Za1
variable {p : Program} {l : Launch} {e : Env} {R : Room} {s : State} {m : MethodId} {args : Array Value} {below : List Frame} {meth : Method} {c : Code} {H : Heap} {locs : List Loc} {cells slots : Nat} {Q : State → Prop}
variable {cc : ByteArray} {pc : Nat} {ls : Array Slot} {rest st0 : List Value} {A : Nat → Prop} {q v : Nat} {fm : Value} {own : String} {index n : Nat} {y : MethodName} {bytes : ByteArray} {maxL : Nat} {ret : Option FieldType} {rm : Room} {As : List Value} {o : Option Value}
theorem sback {Qa : State → Outcome → State → Prop} (hr : va_Run p l e R s m args below meth c H locs cells slots 0 0 (F0 m pc ls st0) rest Qa (fun _ => False)) (hQ : ∀ st oc t, Qa st oc t → oc = .returned o ∧ t.heap = st.heap) (kk : W p l e R s m args below meth c H locs cells slots Q (F0 m (pc + 3) ls (o.toList ++ rest))) : W p l e R s m args below meth c H locs cells slots Q (F0 m pc ls st0) := by
  intro T hT X
  obtain ⟨v, st₀, t, T', L, h0, X', hL, e1, e2, hq, st⟩ := hr T hT X
  obtain ⟨hv, ht⟩ := hQ _ _ _ hq
  cases hv
  have eL : L = [] := by
    cases L with
    | nil => rfl
    | cons a b => exact (hL a List.mem_cons_self).elim
  subst eL
  rw [List.append_nil] at X'
  obtain ⟨t2, a1, b1⟩ := kk T' (by rw [e1, ht, h0]) X'
  exact ⟨t2, st t2 a1, b1⟩
theorem s_runV (hx : p.tables.exec = Jvm.exec) (hb : c.code = cc) (hml : c.maxLocals = ls.size) (hown : s.vm.findClass own = some m.cls) (hts : ∀ w ∈ WS, w.before args s = true)
    (hM : Met l y (Cond.code y bytes maxL ret :: WS) rm (va_Pc (.ref q :: As) (fun U => sP A q v fm U U.heap)) (sQ o) 0 0 (fun _ => False)) (hI : sP A q v fm s s.heap) (hS : va_S A s.heap H locs) (hcls : y.cls = "java/lang/String") (hcode : Cond.code y bytes maxL ret ∈ WS) (hlink : Cond.methodLink own index y ∈ WS) (hini : Cond.initialized y.cls ∈ WS) (hins : Cond.instanceMethod y ∈ WS) (hsel : Cond.selects y.cls y y ∈ WS)
    (hd : y.cls ≠ "java/lang/invoke/MethodHandle" ∧ y.cls ≠ "java/lang/invoke/VarHandle" ∧ (parseMethodDescriptor y.desc).map (fun d => d.parameters.length) = some n) (hR : rm.frames + 1 ≤ R.frames ∧ 8 + (maxL + 11) + rm.locals ≤ R.locals) (hrc : rm.cells = 0) (hrs : rm.slots = 0) (hn : As.length = n) (hst : st0 = As.reverse ++ .ref q :: rest) (hW : (rest.map fun v => v.category).sum ≤ 8) (hdg : decode cc pc = .ok (.invokevirtual index, 3)) (hf : cells ≤ R.cells ∧ slots ≤ R.slots)
    (kk : W p l e R s m args below meth c H locs cells slots Q (F0 m (pc + 3) ls (o.toList ++ rest))) : W p l e R s m args below meth c H locs cells slots Q (F0 m pc ls st0) := by
  refine sback (o := o) (va_runV (C := y.cls) (As := As) (b := q) (rest := rest) (g := F0 m pc ls st0) (nL := ls.size) (Ts := WS) ⟨hx, hb, hml, hown, hts⟩ hM (n := n) (index := index) (bytes := bytes) (maxL := maxL) (ret := ret) ⟨callB_of n hts (sgood hcode) rfl hrc hrs (hts _ hini) (hts _ hlink) hd hR, hts _ hins, hts _ hsel⟩ ⟨sblind A q v fm _, ?_, fun U hU hW0 => ⟨rfl, ?_⟩⟩ rfl hn rfl hst (lv_room hW) hdg hf) (fun st oc t z => z) kk
  · obtain ⟨cell, h1, h2, h3, -⟩ := hI.2.1.kept hS.2.1
    exact ⟨cell, h1, h2, by rw [hcls]; exact h3⟩
  · show sP A q v fm U U.heap
    rw [hU]
    exact (hI.moved hW0.alike).kept hS.2.1
theorem s_runS (hx : p.tables.exec = Jvm.exec) (hb : c.code = cc) (hml : c.maxLocals = ls.size) (hown : s.vm.findClass own = some m.cls) (hts : ∀ w ∈ WS, w.before args s = true)
    (hM : Met l y (Cond.code y bytes maxL ret :: WS) rm (va_Pc As (fun U => sP A q v fm U U.heap)) (sQ o) 0 0 (fun _ => False)) (hI : sP A q v fm s s.heap) (hS : va_S A s.heap H locs) (hcode : Cond.code y bytes maxL ret ∈ WS) (hlink : Cond.methodLink own index y ∈ WS) (hini : Cond.initialized y.cls ∈ WS) (hstt : Cond.static y ∈ WS)
    (hd : y.cls ≠ "java/lang/invoke/MethodHandle" ∧ y.cls ≠ "java/lang/invoke/VarHandle" ∧ (parseMethodDescriptor y.desc).map (fun d => d.parameters.length) = some n) (hR : rm.frames + 1 ≤ R.frames ∧ 8 + (maxL + 11) + rm.locals ≤ R.locals) (hrc : rm.cells = 0) (hrs : rm.slots = 0) (hn : As.length = n) (hst : st0 = As.reverse ++ rest) (hW : (rest.map fun v => v.category).sum ≤ 8) (hdg : decode cc pc = .ok (.invokestatic index, 3)) (hf : cells ≤ R.cells ∧ slots ≤ R.slots)
    (kk : W p l e R s m args below meth c H locs cells slots Q (F0 m (pc + 3) ls (o.toList ++ rest))) : W p l e R s m args below meth c H locs cells slots Q (F0 m pc ls st0) := by
  refine sback (o := o) (va_runS (As := As) (rest := rest) (g := F0 m pc ls st0) (nL := ls.size) (Ts := WS) ⟨hx, hb, hml, hown, hts⟩ hM (n := n) (index := index) (bytes := bytes) (maxL := maxL) (ret := ret) ⟨callB_of n hts (sgood hcode) rfl hrc hrs (hts _ hini) (hts _ hlink) hd hR, hts _ hstt⟩ ⟨sblind A q v fm _, fun U hU hW0 => ⟨rfl, ?_⟩⟩ rfl hn rfl hst (lv_room hW) hdg hf) (fun st oc t z => z) kk
  show sP A q v fm U U.heap
  rw [hU]
  exact (hI.moved hW0.alike).kept hS.2.1
end Za1
theorem m_coder (l : Launch) {A : Nat → Prop} {q v : Nat} {fm : Value}  : Met l yS_coder (Cond.code yS_coder prog_15_method_152_code 1 (some .byte) :: WS) { frames := 0, cells := 0, slots := 0, locals := 0 } (va_Pc [.ref q] (fun U => sP A q v fm U U.heap)) (sQ (some (.int 0))) 0 0 (fun _ => False) := by
  refine Met.ofW (cc := prog_15_method_152_code) (maxL := 1) (ret := some .byte) (ws' := WS) (by decide) rfl ?_
  intro p e s m args below meth c s₁ B hml hv
  obtain ⟨rfl, hI⟩ := hv
  have hx := B.exec
  have hb := B.bytes
  have hr := B.returns
  have hts0 := atoms_spec (ws := Cond.code yS_coder prog_15_method_152_code 1 (some .byte) :: WS) B.pre
  have hts : ∀ w ∈ WS, w.before _ s = true := fun w h => hts0 w (List.mem_cons_of_mem _ h)
  have hown : s.vm.findClass "java/lang/String" = some m.cls := findClass_of_methodNamed B.named
  have hlocks := B.notSynchronized
  have hS : va_S A s.heap s.heap [] := va_S.rf
  have hl := lv_entry ([.ref q]) (n := 1) (Nat.le_of_ble_eq_true rfl)
  rw [lg_entry_eq]
  generalize (lg_sl ([.ref q]) ++ List.replicate (1 - (lg_sl ([.ref q])).length) Slot.unset).toArray = ls at hl ⊢
  have hl : lv_has ls 1 [(0, .ref q)] := hl
  refine va_gets (index := 38) hx hb hI.1 hS hown (hts _ (zi2 226 (by decide +kernel) (by decide +kernel))) (fun x hx => hx) (pc := 0) (by decide +kernel : decode prog_15_method_152_code 0 = .ok (.getstatic 38, 3)) ?_
  refine lv_if_eq hx hb (tgt := 13) (by decide +kernel : decode prog_15_method_152_code 3 = .ok (.ifCond .eq 10, 3)) rfl (fun h => absurd h (by decide)) (fun _ => ?_)
  refine lv_aload_n hx hb (by decide +kernel : decode prog_15_method_152_code 6 = .ok (.aload_n 0, 1)) rfl (lv_at hl 0 rfl) ?_
  refine vk_getf (index := 15) hx hb hI.2.2.1 hS hown (hts _ (zi7 223 (by decide +kernel) (by decide +kernel))) (fun x hx => hx) (by decide +kernel : decode prog_15_method_152_code 7 = .ok (.getfield 15, 3)) ?_
  refine lv_goto hx hb (tgt := 14) (by decide +kernel : decode prog_15_method_152_code 10 = .ok (.goto 4, 3)) rfl ?_
  exact W.zret (v := 0) (ty := .byte) hx hb hr rfl (fun t ht hW => ⟨rfl, ht⟩) (fun _ h => by cases h) (by decide +kernel : decode prog_15_method_152_code 14 = .ok (.ireturn, 1)) hlocks
theorem m_isLatin1 (l : Launch) {A : Nat → Prop} {q v : Nat} {fm : Value}  : Met l yS_isLatin1 (Cond.code yS_isLatin1 prog_15_method_154_code 1 (some .boolean) :: WS) { frames := 0, cells := 0, slots := 0, locals := 0 } (va_Pc [.ref q] (fun U => sP A q v fm U U.heap)) (sQ (some (.int 1))) 0 0 (fun _ => False) := by
  refine Met.ofW (cc := prog_15_method_154_code) (maxL := 1) (ret := some .boolean) (ws' := WS) (by decide) rfl ?_
  intro p e s m args below meth c s₁ B hml hv
  obtain ⟨rfl, hI⟩ := hv
  have hx := B.exec
  have hb := B.bytes
  have hr := B.returns
  have hts0 := atoms_spec (ws := Cond.code yS_isLatin1 prog_15_method_154_code 1 (some .boolean) :: WS) B.pre
  have hts : ∀ w ∈ WS, w.before _ s = true := fun w h => hts0 w (List.mem_cons_of_mem _ h)
  have hown : s.vm.findClass "java/lang/String" = some m.cls := findClass_of_methodNamed B.named
  have hlocks := B.notSynchronized
  have hS : va_S A s.heap s.heap [] := va_S.rf
  have hl := lv_entry ([.ref q]) (n := 1) (Nat.le_of_ble_eq_true rfl)
  rw [lg_entry_eq]
  generalize (lg_sl ([.ref q]) ++ List.replicate (1 - (lg_sl ([.ref q])).length) Slot.unset).toArray = ls at hl ⊢
  have hl : lv_has ls 1 [(0, .ref q)] := hl
  refine va_gets (index := 38) hx hb hI.1 hS hown (hts _ (zi2 226 (by decide +kernel) (by decide +kernel))) (fun x hx => hx) (pc := 0) (by decide +kernel : decode prog_15_method_154_code 0 = .ok (.getstatic 38, 3)) ?_
  refine lv_if_eq hx hb (tgt := 17) (by decide +kernel : decode prog_15_method_154_code 3 = .ok (.ifCond .eq 14, 3)) rfl (fun h => absurd h (by decide)) (fun _ => ?_)
  refine lv_aload_n hx hb (by decide +kernel : decode prog_15_method_154_code 6 = .ok (.aload_n 0, 1)) rfl (lv_at hl 0 rfl) ?_
  refine vk_getf (index := 15) hx hb hI.2.2.1 hS hown (hts _ (zi7 223 (by decide +kernel) (by decide +kernel))) (fun x hx => hx) (by decide +kernel : decode prog_15_method_154_code 7 = .ok (.getfield 15, 3)) ?_
  refine lv_if_ne hx hb (tgt := 17) (by decide +kernel : decode prog_15_method_154_code 10 = .ok (.ifCond .ne 7, 3)) rfl (fun h => absurd rfl h) (fun _ => ?_)
  refine lv_iconst hx hb (n := 1) (v := 1) (by decide +kernel : decode prog_15_method_154_code 13 = .ok (.iconst 1, 1)) rfl ?_
  refine lv_goto hx hb (tgt := 18) (by decide +kernel : decode prog_15_method_154_code 14 = .ok (.goto 4, 3)) rfl ?_
  exact W.zret (v := 1) (ty := .boolean) hx hb hr (znar_b (Or.inr rfl)).1 (fun t ht hW => ⟨rfl, ht⟩) (fun _ h => by cases h) (by decide +kernel : decode prog_15_method_154_code 18 = .ok (.ireturn, 1)) hlocks
theorem m_length (l : Launch) {A : Nat → Prop} {q v : Nat} {fm : Value}  : Met l yS_length (Cond.code yS_length prog_15_method_54_code 1 (some .int) :: WS) { frames := 1, cells := 0, slots := 0, locals := 20 } (va_Pc [.ref q] (fun U => sP A q v fm U U.heap)) (sQ (some (.int 78))) 0 0 (fun _ => False) := by
  refine Met.ofW (cc := prog_15_method_54_code) (maxL := 1) (ret := some .int) (ws' := WS) (by decide) rfl ?_
  intro p e s m args below meth c s₁ B hml hv
  obtain ⟨rfl, hI⟩ := hv
  have hx := B.exec
  have hb := B.bytes
  have hr := B.returns
  have hts0 := atoms_spec (ws := Cond.code yS_length prog_15_method_54_code 1 (some .int) :: WS) B.pre
  have hts : ∀ w ∈ WS, w.before _ s = true := fun w h => hts0 w (List.mem_cons_of_mem _ h)
  have hown : s.vm.findClass "java/lang/String" = some m.cls := findClass_of_methodNamed B.named
  have hlocks := B.notSynchronized
  have hS : va_S A s.heap s.heap [] := va_S.rf
  have hl := lv_entry ([.ref q]) (n := 1) (Nat.le_of_ble_eq_true rfl)
  rw [lg_entry_eq]
  generalize (lg_sl ([.ref q]) ++ List.replicate (1 - (lg_sl ([.ref q])).length) Slot.unset).toArray = ls at hl ⊢
  have hl : lv_has ls 1 [(0, .ref q)] := hl
  refine lv_aload_n hx hb (pc := 0) (by decide +kernel : decode prog_15_method_54_code 0 = .ok (.aload_n 0, 1)) rfl (lv_at hl 0 rfl) ?_
  refine vk_getf (index := 9) hx hb hI.2.2.2.1 hS hown (hts _ (zi7 222 (by decide +kernel) (by decide +kernel))) (fun x hx => hx) (by decide +kernel : decode prog_15_method_54_code 1 = .ok (.getfield 9, 3)) ?_
  refine va_tlen hx hb hI.2.2.2.2.1 hS (v := 78) rfl (by decide +kernel : decode prog_15_method_54_code 4 = .ok (.arraylength, 1)) ?_
  refine lv_aload_n hx hb (by decide +kernel : decode prog_15_method_54_code 5 = .ok (.aload_n 0, 1)) rfl (lv_at hl 0 rfl) ?_
  refine s_runV (own := "java/lang/String") (index := 335) (n := 0) (y := yS_coder) (As := []) (o := some (.int 0)) hx hb (hml.trans hl.1.symm) hown hts (m_coder l) hI hS rfl (zi2 225 (by decide +kernel) (by decide +kernel)) (zi2 222 (by decide +kernel) (by decide +kernel)) (zi1 12 (by decide +kernel) (by decide +kernel)) (zi2 223 (by decide +kernel) (by decide +kernel)) (zi2 224 (by decide +kernel) (by decide +kernel)) ⟨by decide, by decide, by decide +kernel⟩ ⟨by decide, by decide⟩ rfl rfl rfl rfl (by decide) (by decide +kernel : decode prog_15_method_54_code 6 = .ok (.invokevirtual 335, 3)) ⟨Nat.le_refl _, Nat.le_refl _⟩ ?_
  refine lv_ishr hx hb (by decide +kernel : decode prog_15_method_54_code 9 = .ok (.ishr, 1)) ?_
  rw [show (78 : Int32) >>> ((0 : Int32) &&& 31) = 78 by decide]
  exact W.iret (v := 78) hx hb hr (fun t ht hW => ⟨rfl, ht⟩) (fun _ h => by cases h) (by decide +kernel : decode prog_15_method_54_code 10 = .ok (.ireturn, 1)) hlocks
theorem m_pcheck (l : Launch) {A : Nat → Prop} {q v : Nat} {fm : Value} {k : Nat} (hk : k < 78) : Met l yS_pcheck (Cond.code yS_pcheck prog_19_method_11_code 3 (some .int) :: WS) { frames := 0, cells := 0, slots := 0, locals := 0 } (va_Pc [.int (iz (k : Int)), .int 78, fm] (fun U => sP A q v fm U U.heap)) (sQ (some (.int (iz (k : Int))))) 0 0 (fun _ => False) := by
  refine Met.ofW (cc := prog_19_method_11_code) (maxL := 3) (ret := some .int) (ws' := WS) (by decide) rfl ?_
  intro p e s m args below meth c s₁ B hml hv
  obtain ⟨rfl, hI⟩ := hv
  have hx := B.exec
  have hb := B.bytes
  have hr := B.returns
  have hlocks := B.notSynchronized
  have hS : va_S A s.heap s.heap [] := va_S.rf
  have go : ∀ ls : Array Slot, lv_has ls 3 [(0, .int (iz (k : Int))), (1, .int 78)] → W p l e (headSpec (Cond.code yS_pcheck prog_19_method_11_code 3 (some .int) :: WS) { frames := 0, cells := 0, slots := 0, locals := 0 }).room s m [.int (iz (k : Int)), .int 78, fm].toArray below meth c s.heap [] 0 0 (MQ below (sQ (some (.int (iz (k : Int))))) [.int (iz (k : Int)), .int 78, fm].toArray s 0 0 (fun _ => False)) (F0 m 0 ls []) := by
    intro ls hl
    refine lv_iload_n hx hb (by decide +kernel : decode prog_19_method_11_code 0 = .ok (.iload_n 0, 1)) rfl (lv_at hl 0 rfl) ?_
    refine lv_if_lt hx hb (tgt := 9) (by decide +kernel : decode prog_19_method_11_code 1 = .ok (.ifCond .lt 8, 3)) rfl (fun h => ?_) (fun _ => ?_)
    · rw [iz0, iz_lt (by omega) (by omega) (by omega) (by omega)] at h
      omega
    refine lv_iload_n hx hb (by decide +kernel : decode prog_19_method_11_code 4 = .ok (.iload_n 0, 1)) rfl (lv_at hl 0 rfl) ?_
    refine lv_iload_n hx hb (by decide +kernel : decode prog_19_method_11_code 5 = .ok (.iload_n 1, 1)) rfl (lv_at hl 1 rfl) ?_
    refine lv_icmp_lt hx hb (tgt := 16) (by decide +kernel : decode prog_19_method_11_code 6 = .ok (.if_icmp .lt 10, 3)) rfl (fun _ => ?_) (fun h => ?_)
    · refine lv_iload_n hx hb (by decide +kernel : decode prog_19_method_11_code 16 = .ok (.iload_n 0, 1)) rfl (lv_at hl 0 rfl) ?_
      exact W.iret (v := iz (k : Int)) hx hb hr (fun t ht hW => ⟨rfl, ht⟩) (fun _ h => by cases h) (by decide +kernel : decode prog_19_method_11_code 17 = .ok (.ireturn, 1)) hlocks
    · rw [show (78 : Int32) = iz 78 from rfl, iz_lt (by omega) (by omega) (by omega) (by omega)] at h
      omega
  rcases hI.2.2.2.2.2.2 with h | ⟨a, h⟩
  · subst h
    have hl := lv_entry ([.int (iz (k : Int)), .int 78, .null]) (n := 3) (Nat.le_of_ble_eq_true rfl)
    rw [lg_entry_eq]
    exact go _ (lv_sub hl [0, 1] rfl)
  · subst h
    have hl := lv_entry ([.int (iz (k : Int)), .int 78, .ref a]) (n := 3) (Nat.le_of_ble_eq_true rfl)
    rw [lg_entry_eq]
    exact go _ (lv_sub hl [0, 1] rfl)
theorem m_check (l : Launch) {A : Nat → Prop} {q v : Nat} {fm : Value} {k : Nat} (hk : k < 78) : Met l yS_check (Cond.code yS_check prog_15_method_155_code 2 (none) :: WS) { frames := 1, cells := 0, slots := 0, locals := 22 } (va_Pc [.int (iz (k : Int)), .int 78] (fun U => sP A q v fm U U.heap)) (sQ (none)) 0 0 (fun _ => False) := by
  refine Met.ofW (cc := prog_15_method_155_code) (maxL := 2) (ret := none) (ws' := WS) (by decide) rfl ?_
  intro p e s m args below meth c s₁ B hml hv
  obtain ⟨rfl, hI⟩ := hv
  have hx := B.exec
  have hb := B.bytes
  have hr := B.returns
  have hts0 := atoms_spec (ws := Cond.code yS_check prog_15_method_155_code 2 (none) :: WS) B.pre
  have hts : ∀ w ∈ WS, w.before _ s = true := fun w h => hts0 w (List.mem_cons_of_mem _ h)
  have hown : s.vm.findClass "java/lang/String" = some m.cls := findClass_of_methodNamed B.named
  have hlocks := B.notSynchronized
  have hS : va_S A s.heap s.heap [] := va_S.rf
  have hl := lv_entry ([.int (iz (k : Int)), .int 78]) (n := 2) (Nat.le_of_ble_eq_true rfl)
  rw [lg_entry_eq]
  generalize (lg_sl ([.int (iz (k : Int)), .int 78]) ++ List.replicate (2 - (lg_sl ([.int (iz (k : Int)), .int 78])).length) Slot.unset).toArray = ls at hl ⊢
  have hl : lv_has ls 2 [(0, .int (iz (k : Int))), (1, .int 78)] := hl
  refine lv_iload_n hx hb (pc := 0) (by decide +kernel : decode prog_15_method_155_code 0 = .ok (.iload_n 0, 1)) rfl (lv_at hl 0 rfl) ?_
  refine lv_iload_n hx hb (by decide +kernel : decode prog_15_method_155_code 1 = .ok (.iload_n 1, 1)) rfl (lv_at hl 1 rfl) ?_
  refine va_gets (index := 1053) hx hb hI.2.2.2.2.2.1 hS hown (hts _ (zi3 2 (by decide +kernel) (by decide +kernel))) (fun x hx => hx) (by decide +kernel : decode prog_15_method_155_code 2 = .ok (.getstatic 1053, 3)) ?_
  refine s_runS (own := "java/lang/String") (index := 1059) (n := 3) (y := yS_pcheck) (As := [.int (iz (k : Int)), .int 78, fm]) (rest := []) (o := some (.int (iz (k : Int)))) hx hb (hml.trans hl.1.symm) hown hts (m_pcheck l hk) hI hS (zi3 6 (by decide +kernel) (by decide +kernel)) (zi3 4 (by decide +kernel) (by decide +kernel)) (zi1 14 (by decide +kernel) (by decide +kernel)) (zi3 5 (by decide +kernel) (by decide +kernel)) ⟨by decide, by decide, by decide +kernel⟩ ⟨by decide, by decide⟩ rfl rfl rfl rfl (by decide) (by decide +kernel : decode prog_15_method_155_code 5 = .ok (.invokestatic 1059, 3)) ⟨Nat.le_refl _, Nat.le_refl _⟩ ?_
  refine lv_pop hx hb (by decide +kernel : decode prog_15_method_155_code 8 = .ok (.pop, 1)) rfl ?_
  exact W.vret hx hb hr (fun t ht hW => ⟨rfl, ht⟩) (fun _ h => by cases h) (by decide +kernel : decode prog_15_method_155_code 9 = .ok (.return_, 1)) hlocks
theorem m_lcharAt (l : Launch) {A : Nat → Prop} {q v : Nat} {fm : Value} {k : Nat} (hk : k < 78) : Met l yS_lcharAt (Cond.code yS_lcharAt prog_16_method_2_code 2 (some .char) :: WS) { frames := 2, cells := 0, slots := 0, locals := 43 } (va_Pc [.ref v, .int (iz (k : Int))] (fun U => sP A q v fm U U.heap)) (sQ (some (.int (wCh k)))) 0 0 (fun _ => False) := by
  refine Met.ofW (cc := prog_16_method_2_code) (maxL := 2) (ret := some .char) (ws' := WS) (by decide) rfl ?_
  intro p e s m args below meth c s₁ B hml hv
  obtain ⟨rfl, hI⟩ := hv
  have hx := B.exec
  have hb := B.bytes
  have hr := B.returns
  have hts0 := atoms_spec (ws := Cond.code yS_lcharAt prog_16_method_2_code 2 (some .char) :: WS) B.pre
  have hts : ∀ w ∈ WS, w.before _ s = true := fun w h => hts0 w (List.mem_cons_of_mem _ h)
  have hown : s.vm.findClass "java/lang/StringLatin1" = some m.cls := findClass_of_methodNamed B.named
  have hlocks := B.notSynchronized
  have hS : va_S A s.heap s.heap [] := va_S.rf
  have hl := lv_entry ([.ref v, .int (iz (k : Int))]) (n := 2) (Nat.le_of_ble_eq_true rfl)
  rw [lg_entry_eq]
  generalize (lg_sl ([.ref v, .int (iz (k : Int))]) ++ List.replicate (2 - (lg_sl ([.ref v, .int (iz (k : Int))])).length) Slot.unset).toArray = ls at hl ⊢
  have hl : lv_has ls 2 [(0, .ref v), (1, .int (iz (k : Int)))] := hl
  refine lv_iload_n hx hb (pc := 0) (by decide +kernel : decode prog_16_method_2_code 0 = .ok (.iload_n 1, 1)) rfl (lv_at hl 1 rfl) ?_
  refine lv_aload_n hx hb (by decide +kernel : decode prog_16_method_2_code 1 = .ok (.aload_n 0, 1)) rfl (lv_at hl 0 rfl) ?_
  refine va_tlen hx hb hI.2.2.2.2.1 hS (v := 78) rfl (by decide +kernel : decode prog_16_method_2_code 2 = .ok (.arraylength, 1)) ?_
  refine s_runS (own := "java/lang/StringLatin1") (index := 9) (n := 2) (y := yS_check) (As := [.int (iz (k : Int)), .int 78]) (rest := []) (o := none) hx hb (hml.trans hl.1.symm) hown hts (m_check l hk) hI hS (zi3 1 (by decide +kernel) (by decide +kernel)) (zi2 239 (by decide +kernel) (by decide +kernel)) (zi1 12 (by decide +kernel) (by decide +kernel)) (zi3 0 (by decide +kernel) (by decide +kernel)) ⟨by decide, by decide, by decide +kernel⟩ ⟨by decide, by decide⟩ rfl rfl rfl rfl (by decide) (by decide +kernel : decode prog_16_method_2_code 3 = .ok (.invokestatic 9, 3)) ⟨Nat.le_refl _, Nat.le_refl _⟩ ?_
  refine lv_aload_n hx hb (by decide +kernel : decode prog_16_method_2_code 6 = .ok (.aload_n 0, 1)) rfl (lv_at hl 0 rfl) ?_
  refine lv_iload_n hx hb (by decide +kernel : decode prog_16_method_2_code 7 = .ok (.iload_n 1, 1)) rfl (lv_at hl 1 rfl) ?_
  refine va_tb hx hb hI.2.2.2.2.1 hS (iz_inN hk (by omega)) (v := .int (wCh k)) (by rw [iz_clN (by omega)]) (by decide +kernel : decode prog_16_method_2_code 8 = .ok (.baload, 1)) ?_
  refine lv_sipush hx hb (n := 255) (v := 255) (by decide +kernel : decode prog_16_method_2_code 9 = .ok (.sipush 255, 3)) (by decide) ?_
  refine lv_iand hx hb (by decide +kernel : decode prog_16_method_2_code 12 = .ok (.iand, 1)) ?_
  refine lv_i2c hx hb (v := wCh k) (by decide +kernel : decode prog_16_method_2_code 13 = .ok (.i2c, 1)) ((sc_c2 (wCh k)).trans (wCh_255 k hk)) ?_
  exact W.zret (v := wCh k) (ty := .char) hx hb hr (by have := sc_nar (wCh k); rw [wCh_255 k hk] at this; exact this) (fun t ht hW => ⟨rfl, ht⟩) (fun _ h => by cases h) (by decide +kernel : decode prog_16_method_2_code 14 = .ok (.ireturn, 1)) hlocks
theorem m_charAt (l : Launch) {A : Nat → Prop} {q v : Nat} {fm : Value} {k : Nat} (hk : k < 78) : Met l yS_charAt (Cond.code yS_charAt prog_15_method_56_code 2 (some .char) :: WS) { frames := 3, cells := 0, slots := 0, locals := 64 } (va_Pc [.ref q, .int (iz (k : Int))] (fun U => sP A q v fm U U.heap)) (sQ (some (.int (wCh k)))) 0 0 (fun _ => False) := by
  refine Met.ofW (cc := prog_15_method_56_code) (maxL := 2) (ret := some .char) (ws' := WS) (by decide) rfl ?_
  intro p e s m args below meth c s₁ B hml hv
  obtain ⟨rfl, hI⟩ := hv
  have hx := B.exec
  have hb := B.bytes
  have hr := B.returns
  have hts0 := atoms_spec (ws := Cond.code yS_charAt prog_15_method_56_code 2 (some .char) :: WS) B.pre
  have hts : ∀ w ∈ WS, w.before _ s = true := fun w h => hts0 w (List.mem_cons_of_mem _ h)
  have hown : s.vm.findClass "java/lang/String" = some m.cls := findClass_of_methodNamed B.named
  have hlocks := B.notSynchronized
  have hS : va_S A s.heap s.heap [] := va_S.rf
  have hl := lv_entry ([.ref q, .int (iz (k : Int))]) (n := 2) (Nat.le_of_ble_eq_true rfl)
  rw [lg_entry_eq]
  generalize (lg_sl ([.ref q, .int (iz (k : Int))]) ++ List.replicate (2 - (lg_sl ([.ref q, .int (iz (k : Int))])).length) Slot.unset).toArray = ls at hl ⊢
  have hl : lv_has ls 2 [(0, .ref q), (1, .int (iz (k : Int)))] := hl
  refine lv_aload_n hx hb (pc := 0) (by decide +kernel : decode prog_15_method_56_code 0 = .ok (.aload_n 0, 1)) rfl (lv_at hl 0 rfl) ?_
  refine s_runV (own := "java/lang/String") (index := 492) (n := 0) (y := yS_isLatin1) (As := []) (o := some (.int 1)) hx hb (hml.trans hl.1.symm) hown hts (m_isLatin1 l) hI hS rfl (zi2 235 (by decide +kernel) (by decide +kernel)) (zi2 232 (by decide +kernel) (by decide +kernel)) (zi1 12 (by decide +kernel) (by decide +kernel)) (zi2 233 (by decide +kernel) (by decide +kernel)) (zi2 234 (by decide +kernel) (by decide +kernel)) ⟨by decide, by decide, by decide +kernel⟩ ⟨by decide, by decide⟩ rfl rfl rfl rfl (by decide) (by decide +kernel : decode prog_15_method_56_code 1 = .ok (.invokevirtual 492, 3)) ⟨Nat.le_refl _, Nat.le_refl _⟩ ?_
  refine lv_if_eq hx hb (tgt := 16) (by decide +kernel : decode prog_15_method_56_code 4 = .ok (.ifCond .eq 12, 3)) rfl (fun h => absurd h (by decide)) (fun _ => ?_)
  refine lv_aload_n hx hb (by decide +kernel : decode prog_15_method_56_code 7 = .ok (.aload_n 0, 1)) rfl (lv_at hl 0 rfl) ?_
  refine vk_getf (index := 9) hx hb hI.2.2.2.1 hS hown (hts _ (zi7 222 (by decide +kernel) (by decide +kernel))) (fun x hx => hx) (by decide +kernel : decode prog_15_method_56_code 8 = .ok (.getfield 9, 3)) ?_
  refine lv_iload_n hx hb (by decide +kernel : decode prog_15_method_56_code 11 = .ok (.iload_n 1, 1)) rfl (lv_at hl 1 rfl) ?_
  refine s_runS (own := "java/lang/String") (index := 495) (n := 2) (y := yS_lcharAt) (As := [.ref v, .int (iz (k : Int))]) (rest := []) (o := some (.int (wCh k))) hx hb (hml.trans hl.1.symm) hown hts (m_lcharAt l hk) hI hS (zi2 238 (by decide +kernel) (by decide +kernel)) (zi2 236 (by decide +kernel) (by decide +kernel)) (zi1 13 (by decide +kernel) (by decide +kernel)) (zi2 237 (by decide +kernel) (by decide +kernel)) ⟨by decide, by decide, by decide +kernel⟩ ⟨by decide, by decide⟩ rfl rfl rfl rfl (by decide) (by decide +kernel : decode prog_15_method_56_code 12 = .ok (.invokestatic 495, 3)) ⟨Nat.le_refl _, Nat.le_refl _⟩ ?_
  exact W.zret (v := wCh k) (ty := .char) hx hb hr (by have := sc_nar (wCh k); rw [wCh_255 k hk] at this; exact this) (fun t ht hW => ⟨rfl, ht⟩) (fun _ h => by cases h) (by decide +kernel : decode prog_15_method_56_code 15 = .ok (.ireturn, 1)) hlocks
