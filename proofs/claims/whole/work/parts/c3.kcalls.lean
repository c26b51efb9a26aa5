/-! a constructor's calls, stores and end -/
theorem k_desc : (parseMethodDescriptor "()V").map (fun d => d.parameters.length) = some 0 := by decide +kernel
section Zc3
variable {Γ : zC} {κ : kX} {own : String} {cc : ByteArray} {nL h z cells slots n cells' slots' n' pc pc' : Nat} {F : Nat → va_E} {ls : Array Slot} {st : List Value}
theorem k_lt {x y : Int32} {off : Int} {tgt : Nat} (C : kC Γ κ own cc nL h z) (hxy : ¬ y ≤ x) (d : decode cc pc = .ok (.if_icmp .ge off, 3)) (ht : (pc : Int) + off = (tgt : Int)) (e : pc' = pc + 3) (k : kG Γ κ h cells slots n F pc' ls st) : kG Γ κ h cells slots n F pc ls (.int y :: .int x :: st) := by
  obtain ⟨p, e', s, m, args, below, meth, c, R, Q⟩ := κ
  subst e
  exact fun H locs hP hS => lv_icmp_ge C.1 C.2.1 d ht (fun h9 => absurd h9 hxy) (fun _ => k H locs hP hS)
theorem k_ge {x y : Int32} {off : Int} (C : kC Γ κ own cc nL h z) (hxy : y ≤ x) (d : decode cc pc = .ok (.if_icmp .ge off, 3)) (ht : (pc : Int) + off = (pc' : Int)) (k : kG Γ κ h cells slots n F pc' ls st) : kG Γ κ h cells slots n F pc ls (.int y :: .int x :: st) := by
  obtain ⟨p, e', s, m, args, below, meth, c, R, Q⟩ := κ
  exact fun H locs hP hS => lv_icmp_ge C.1 C.2.1 d ht (fun _ => k H locs hP hS) (fun h9 => absurd hxy h9)
/-- behind a constructor's call -/
theorem k_back {p : Program} {e : Env} {s : State} {m : MethodId} {args : Array Value} {below : List Frame} {meth : Method} {c : Code} {H : Heap} {locs : List Loc} {i N ms : Nat} {st0 : List Value} {E : Nat → va_E} {Q : State → Prop} {R : Room} {av : Array Value}
    (hr : va_Run p Γ.1 e R s m args below meth c H locs cells slots (N - 1) ms (F0 m pc ls st0) st (kQc Γ (h + i) N E av) (fun q => h + i ≤ q)) (hS : va_S (fun q => h ≤ q) s.heap H locs) (hP : kW Γ.2.1 h n F H) (hi : n = i + 1)
    (k : kG Γ (p, e, s, m, args, below, meth, c, R, Q) h (cells + (N - 1)) (slots + ms) (i + N) (kcat F i E) (pc + 3) ls st) : W p Γ.1 e R s m args below meth c H locs cells slots Q (F0 m pc ls st0) := by
  intro T hT X
  obtain ⟨v, st₀, t, T', L, h0, X', hL, e1, e2, ⟨hv, hW, hz, hk⟩, st'⟩ := hr T hT X
  cases hv
  rw [h0] at hz hk
  have hkeep : ∀ q, q < h + i → T'.heap[q]? = H[q]? := fun q hq => by
    rw [e1]
    exact hk q (by rw [hP.1]; omega) (fun h9 => by omega)
  obtain ⟨t2, a1, b1⟩ := k T'.heap (locs ++ L) (hP.cat (by omega) hkeep (by rw [e1]; exact hW))
    ⟨Nat.le_trans hS.1 (by rw [e1]; exact hz), fun q h1 h2 => by
      rw [hkeep q (by have h3 : ¬ h ≤ q := h2; omega)]
      exact hS.2.1 q h1 h2, fun q hq => by
      rcases List.mem_append.mp hq with h9 | h9
      · exact hS.2.2 q h9
      · exact Nat.le_trans (Nat.le_add_right h i) (hL q h9)⟩ T' rfl X'
  exact ⟨t2, st' t2 a1, b1⟩
/-- a nest mate's constructor -/
theorem k_cN {c0 c1 idx N ms i maxL : Nat} {E : Nat → va_E} {bytes : ByteArray} {rm : Room} (C : kC Γ κ (zR c0) cc nL h z) (hsz : ls.size = nL)
    (hM : Met Γ.1 (kIn c1) (Cond.code (kIn c1) bytes maxL none :: WS) rm (va_Pc [.ref (h + i)] (kPre Γ c1 (h + i))) (kQc Γ (h + i) N E) (N - 1) ms (fun q => h + i ≤ q))
    (hcode : Cond.code (kIn c1) bytes maxL none ∈ WS) (hini : Cond.initialized (zR c1) ∈ WS) (hin : Cond.instanceMethod (kIn c1) ∈ WS) (hNw : (c0, idx, c1) ∈ kNest) (hd : zR c1 ≠ "java/lang/invoke/MethodHandle" ∧ zR c1 ≠ "java/lang/invoke/VarHandle")
    (hR : rm.frames + 1 ≤ (kRm κ).frames ∧ 8 + (maxL + 11) + rm.locals ≤ (kRm κ).locals) (hrc : rm.cells = N - 1) (hrs : rm.slots = ms) (hf : cells + (N - 1) ≤ (kRm κ).cells ∧ slots + ms ≤ (kRm κ).slots) (hFi : F i = .inr (c1, zdf c1)) (hi : n = i + 1) (hst : (st.map fun v => v.category).sum ≤ 8) (d : decode cc pc = .ok (.invokespecial idx, 3)) (e : pc' = pc + 3) (ec : cells' = cells + (N - 1)) (es : slots' = slots + ms) (en : n' = i + N)
    (k : kG Γ κ h cells' slots' n' (kcat F i E) pc' ls st) : kG Γ κ h cells slots n F pc ls (.ref (h + i) :: st) := by
  obtain ⟨p, e', s, m, args, below, meth, c, R, Q⟩ := κ
  subst e; subst ec; subst es; subst en
  obtain ⟨hx, hb, hml, hown, hts, hK, hN, hz⟩ := C
  intro H locs hP hS
  refine k_back (va_runIN (b := h + i) (As := []) (rest := st) (g := F0 m pc ls (.ref (h + i) :: st)) (nL := nL) (Ts := WS) (n := 0) (host := "RoadBoards") ⟨hx, hb, hml, hown, hts⟩ hM ⟨va_cnB 0 hts (sgood hcode) rfl hrc hrs (hN.1 _ hNw) (hts _ hini) ⟨hd.1, hd.2, k_desc⟩ hR, rfl, hts _ hin⟩ ⟨kblind Γ c1 (h + i) _, fun U hU hW0 => ⟨rfl, ?_⟩⟩ rfl rfl hsz rfl (lv_room hst) d hf) hS hP hi k
  refine ⟨by rw [hU, hP.1]; omega, ?_, hK.moved hW0.alike, hN.warm hW0⟩
  rw [hU, ← hFi]
  exact hP.at (by omega)
/-- any other constructor -/
theorem k_cP {c1 idx N ms i maxL : Nat} {E : Nat → va_E} {bytes : ByteArray} {rm : Room} (C : kC Γ κ own cc nL h z) (hsz : ls.size = nL)
    (hM : Met Γ.1 (kIn c1) (Cond.code (kIn c1) bytes maxL none :: WS) rm (va_Pc [.ref (h + i)] (kPre Γ c1 (h + i))) (kQc Γ (h + i) N E) (N - 1) ms (fun q => h + i ≤ q))
    (hcode : Cond.code (kIn c1) bytes maxL none ∈ WS) (hini : Cond.initialized (zR c1) ∈ WS) (hin : Cond.instanceMethod (kIn c1) ∈ WS) (hl : Cond.methodLink own idx (kIn c1) ∈ WS) (hd : zR c1 ≠ "java/lang/invoke/MethodHandle" ∧ zR c1 ≠ "java/lang/invoke/VarHandle")
    (hR : rm.frames + 1 ≤ (kRm κ).frames ∧ 8 + (maxL + 11) + rm.locals ≤ (kRm κ).locals) (hrc : rm.cells = N - 1) (hrs : rm.slots = ms) (hf : cells + (N - 1) ≤ (kRm κ).cells ∧ slots + ms ≤ (kRm κ).slots) (hFi : F i = .inr (c1, zdf c1)) (hi : n = i + 1) (hst : (st.map fun v => v.category).sum ≤ 8) (d : decode cc pc = .ok (.invokespecial idx, 3)) (e : pc' = pc + 3) (ec : cells' = cells + (N - 1)) (es : slots' = slots + ms) (en : n' = i + N)
    (k : kG Γ κ h cells' slots' n' (kcat F i E) pc' ls st) : kG Γ κ h cells slots n F pc ls (.ref (h + i) :: st) := by
  obtain ⟨p, e', s, m, args, below, meth, c, R, Q⟩ := κ
  subst e; subst ec; subst es; subst en
  obtain ⟨hx, hb, hml, hown, hts, hK, hN, hz⟩ := C
  intro H locs hP hS
  refine k_back (va_runI (b := h + i) (As := []) (rest := st) (g := F0 m pc ls (.ref (h + i) :: st)) (nL := nL) (Ts := WS) (n := 0) ⟨hx, hb, hml, hown, hts⟩ hM ⟨callB_of 0 hts (sgood hcode) rfl hrc hrs (hts _ hini) (hts _ hl) ⟨hd.1, hd.2, k_desc⟩ hR, rfl, hts _ hin⟩ ⟨kblind Γ c1 (h + i) _, fun U hU hW0 => ⟨rfl, ?_⟩⟩ rfl rfl hsz rfl (lv_room hst) d hf) hS hP hi k
  refine ⟨by rw [hU, hP.1]; omega, ?_, hK.moved hW0.alike, hN.warm hW0⟩
  rw [hU, ← hFi]
  exact hP.at (by omega)
/-- an object into an array of references -/
theorem k_aa {c1 t i j N : Nat} {x : Int32} {vs : List Value} {f : Nat → Option Nat} (C : kC Γ κ own cc nL h z) (hc : c1 < 11) (ht : (ztys Γ)[t]? = some (Γ.2.2.1 t, .object (zR c1))) (hi : F i = .inl (Γ.2.2.1 t, N, .inr (.inr (.inr (.inr f))))) (hj : F j = .inr (c1, vs)) (hn : z + cells = n ∧ i < n ∧ j < n) (hx : vp_in x N) (d : decode cc pc = .ok (.aastore, 1)) (e : pc' = pc + 1)
    (k : kG Γ κ h cells slots n (kup F i (.inl (Γ.2.2.1 t, N, .inr (.inr (.inr (.inr (va_up f x.toNatClampNeg (some (h + j))))))))) pc' ls st) : kG Γ κ h cells slots n F pc ls (.ref (h + j) :: .int x :: .ref (h + i) :: st) := by
  obtain ⟨p, e', s, m, args, below, meth, c, R, Q⟩ := κ
  subst e
  obtain ⟨hx1, hb, hml, hown, hts, hK, hN, hz⟩ := C
  intro H locs hP hS
  refine va_astq (r := (zR c1, zT c1, zN c1)) hx1 hb hK hP.2 kws_D hS i t j c1 (by rw [kws_get hn.2.1, hi]) ht (by rw [kws_get hn.2.2, hj]) (zcl hc) hx d fun H1 locs1 hP1 _ hS1 => k_size fun hsz => ?_
  exact k H1 locs1 (kW.set (by have := kset_size hn.2.1 hP1; have := hn.1; omega) hn.2.1 hP1) hS1
theorem k_ia {i N : Nat} {x y : Int32} {f : Nat → Int32} (C : kC Γ κ own cc nL h z) (hi : F i = .inl (Γ.2.2.1 0, N, .inl f)) (hn : z + cells = n ∧ i < n) (hx : vp_in x N) (d : decode cc pc = .ok (.iastore, 1)) (e : pc' = pc + 1)
    (k : kG Γ κ h cells slots n (kup F i (.inl (Γ.2.2.1 0, N, .inl (upd f x.toNatClampNeg y)))) pc' ls st) : kG Γ κ h cells slots n F pc ls (.int y :: .int x :: .ref (h + i) :: st) := by
  obtain ⟨p, e', s, m, args, below, meth, c, R, Q⟩ := κ
  subst e
  obtain ⟨hx1, hb, hml, hown, hts, hK, hN, hz⟩ := C
  intro H locs hP hS
  refine va_iast hx1 hb hK hP.2 kws_D hS i 0 (by rw [kws_get hn.2, hi]) rfl hx d fun H1 locs1 hP1 _ hS1 => k_size fun hsz => ?_
  exact k H1 locs1 (kW.set (by have := kset_size hn.2 hP1; have := hn.1; omega) hn.2 hP1) hS1
end Zc3
def k0 (c : Nat) : Nat → va_E := fun _ => .inr (c, zdf c)
/-- a constructor by its walk -/
theorem k_met {Γ : zC} {c1 h N ms maxL : Nat} {E : Nat → va_E} {cc : ByteArray} {rm : Room} (hp : plainName (zR c1) = true) (hm1 : 1 ≤ maxL)
    (body : ∀ (κ : kX) (ls : Array Slot), kC Γ κ (zR c1) cc maxL h 1 → kMn κ = "<init>" → kRm κ = rm → lv_has ls maxL [(0, .ref h)] → (∀ (pc : Nat) (ls : Array Slot), decode cc pc = .ok (.return_, 1) → kG Γ κ h (N - 1) ms N E pc ls []) → kG Γ κ h 0 0 1 (k0 c1) 0 ls []) :
    Met Γ.1 (kIn c1) (Cond.code (kIn c1) cc maxL none :: WS) rm (va_Pc [.ref h] (kPre Γ c1 h)) (kQc Γ h N E) (N - 1) ms (fun q => h ≤ q) := by
  refine Met.ofW (cc := cc) (maxL := maxL) (ret := none) (ws' := WS) hp rfl ?_
  intro p e s m args below meth c s₁ B hml hv
  obtain ⟨rfl, hz, hat, hK, hN⟩ := hv
  have hts0 := atoms_spec (ws := Cond.code (kIn c1) cc maxL none :: WS) B.pre
  have hts : ∀ w ∈ WS, w.before _ s = true := fun w h => hts0 w (List.mem_cons_of_mem _ h)
  have hown : s.vm.findClass (zR c1) = some m.cls := findClass_of_methodNamed B.named
  have hl := lv_entry ([.ref h]) (n := maxL) hm1
  rw [lg_entry_eq]
  generalize (lg_sl ([.ref h]) ++ List.replicate (maxL - (lg_sl ([.ref h])).length) Slot.unset).toArray = ls at hl ⊢
  have hl : lv_has ls maxL [(0, .ref h)] := hl
  refine body (p, e, s, m, _, below, meth, c, (headSpec (Cond.code (kIn c1) cc maxL none :: WS) rm).room, _) ls ⟨B.exec, B.bytes, hml, hown, hts, hK, hN, hz⟩ ?_ rfl hl ?_ s.heap [] (kW.of hz (fun k hk => ?_)) va_S.rf
  · exact (name_of_methodNamed B.named B.method).1
  · intro pc ls' d H locs hP hS
    exact W.vret B.exec B.bytes B.returns (fun t ht hW => ⟨rfl, by rw [ht]; exact hP, hS.F ht⟩) hS.2.2 d B.notSynchronized
  · rw [show k = 0 by omega]
    exact hat
