/-! the law's own steps -/
def R_law : String := "RoadBoardsLaw"
def lw_P (b : Addr) (xs : List Int32) (args : Array Value) (s : State) : Prop := args = #[.ref b] ∧ s.IntsAt b xs ∧ xs.length ≤ 3072 ∧ (Jvm.Cond.and given_1 narrow_1).before args s = true
def lw_Q (_ : Array Value) (s : State) (o : Outcome) (t : State) : Prop := o = .returned (some (.int 1)) ∧ Framed s o t [] 600000 7302250
def lw_Z (below : List Frame) (a : Array Value) (s : State) : State → Prop := fun t => ∃ o, t.status = .running ∧ Ended t below o ∧ lw_Q a s o t
/-- the law's own end, with 1 on the stack, nothing written that was there before, its room as the claim has it -/
theorem lw_ret {p : Program} {l : Launch} {e : Env} {s : State} {m : MethodId} {below : List Frame} {meth : Method} {c : Code} {b : Nat} (hx : p.tables.exec = Jvm.exec) (hb : c.code = code) (hr : meth.sig.returnType = ret) (hlocks : meth.locks = false) {pc : Nat} {H : Heap} {ls : Array Slot} (hdg : decode code pc = .ok (.ireturn, 1)) : W p l e room_1 s m #[Value.ref b] below meth c H [] 600000 7302250 (lw_Z below #[Value.ref b] s) (F0 m pc ls [.int 1]) := by
  intro T hT X
  obtain ⟨fs, hret, hrun, hended, hW, hframe⟩ := X.leave (v := some (.int 1)) (hlocks := hlocks) (fun h => by rw [hr] at h; cases h)
  have hmeth' : T.vm.method? m = some meth := X.method'
  refine ⟨T.setFrames fs, ?_, .returned (some (.int 1)), hrun, hended, rfl, ⟨_, rfl⟩, hW, hframe⟩
  jvm_step X.here [X.here.top, hx, hb, hdg, hmeth', hr, ret, narrow_b1]
  (try refine ⟨rfl, ?_⟩); (try refine ⟨rfl, ?_⟩)
  first | (intro acts; rw [hret _ acts rfl rfl rfl]) | rw [hret _ _ rfl rfl rfl]
  exact Steps.refl _
/-- what holds at the law's entry: the machine, the code, the tables' words (any of lw_tbl by 'hts w (by decide +kernel)'), the script of L ints xs at the cell b, what the Statement gives of the start (any of its parts by flat_of_before) -/
def lw_At (p : Program) (s : State) (m : MethodId) (meth : Method) (c : Code) (b L : Nat) (xs : Nat → Int32) : Prop :=
  p.tables.exec = Jvm.exec ∧ c.code = code ∧ meth.sig.returnType = ret ∧ c.maxLocals = 4 ∧ s.vm.findClass R_law = some m.cls ∧ (∀ w ∈ lw_tbl, w.before #[Value.ref b] s = true) ∧ va_X b L xs s s.heap ∧ b < s.heap.size ∧ meth.locks = false ∧ (Jvm.Cond.and given_1 narrow_1).before #[Value.ref b] s = true
/-- the law's frame: the program, the start, the method, the script's cell, what has been made -/
abbrev lX : Type := Program × Env × State × MethodId × List Frame × Method × Code × Nat × Nat × Nat
def lH (Γ : zC) (κ : lX) (L : Nat) (xs : Nat → Int32) : Prop := match κ with
  | (p, _, s, m, _, meth, c, b, cells, slots) => lw_At p s m meth c b L xs ∧ zG Γ ∧ Γ.2.2.2.2 = s ∧ va_K Γ.2.1 vwCl (ztys Γ) s ∧ L ≤ 3072 ∧ cells ≤ 600000 ∧ slots ≤ 7302250
def lJ (Γ : zC) (κ : lX) (i : Int32) (pc : Nat) (st : List Value) (M : zM) : Prop := match κ with
  | (p, e, s, m, below, meth, c, b, cells, slots) => ∀ (H : Heap) (locs : List Loc) (ls : Array Slot), va_P Γ.2.1 vwCl (zwd Γ M) H → va_S (zA Γ) s.heap H locs → lv_has ls 4 [(3, .int i), (2, .ref (Γ.2.2.2.1 (10, 0, 0))), (1, .ref (Γ.2.2.2.1 (9, 0, 0))), (0, .ref b)] → W p Γ.1 e room_1 s m #[Value.ref b] below meth c H locs cells slots (lw_Z below #[Value.ref b] s) (F0 m pc ls st)
theorem lback {Γ : zC} {p : Program} {e : Env} {s : State} {m : MethodId} {args : Array Value} {below : List Frame} {meth : Method} {c : Code} {H : Heap} {locs : List Loc} {ls : Array Slot} {pc cells slots : Nat} {st0 rest : List Value} {Q' : zQ} {Qw : State → Prop} {av : Array Value} {R : Room}
    (hr : va_Run p Γ.1 e R s m args below meth c H locs cells slots 0 0 (F0 m pc ls st0) rest (zQc Γ Q' av) (zA Γ)) (hS : va_S (zA Γ) s.heap H locs)
    (kk : ∀ (o : Option zV) (M' : zM) (H1 : Heap) (locs1 : List Loc), Q' o M' → va_P Γ.2.1 vwCl (zwd Γ M') H1 → va_S (zA Γ) s.heap H1 locs1 → W p Γ.1 e R s m args below meth c H1 locs1 cells slots Qw (F0 m (pc + 3) ls ((o.map (ztv Γ)).toList ++ rest))) : W p Γ.1 e R s m args below meth c H locs cells slots Qw (F0 m pc ls st0) := by
  intro T hT X
  obtain ⟨v, st₀, t, T', L, h0, X', hL, e1, e2, ⟨⟨o, M', hv, hq, hok, hI⟩, hz, hk⟩, st⟩ := hr T hT X
  cases hv
  rw [h0] at hz hk
  obtain ⟨t2, a1, b1⟩ := kk o M' T'.heap (locs ++ L) hq (by rw [e1]; exact hI.1)
    ⟨Nat.le_trans hS.1 (by rw [e1]; exact hz), fun q h1 h2 => by rw [e1, hk q (Nat.lt_of_lt_of_le h1 hS.1) h2]; exact hS.2.1 q h1 h2, fun q hq => by
      rcases List.mem_append.mp hq with h | h
      · exact hS.2.2 q h
      · exact hL q h⟩ T' rfl X'
  exact ⟨t2, st t2 a1, b1⟩
section Zb5
variable {Γ : zC} {κ : lX} {L : Nat} {xs : Nat → Int32} {i : Int32} {st : List Value} {M : zM} {pc pc' : Nat}
theorem l_a1 (C : lH Γ κ L xs) (d : decode code pc = .ok (.aload_n 1, 1)) (e : pc' = pc + 1) (h : lJ Γ κ i pc' (.ref (Γ.2.2.2.1 (9, 0, 0)) :: st) M) : lJ Γ κ i pc st M := by
  obtain ⟨p, e', s, m, below, meth, c, b, cells, slots⟩ := κ
  subst e
  intro H locs ls hP hS hl
  exact lv_aload_n C.1.1 C.1.2.1 d rfl (lv_at hl 2 rfl) (h H locs ls hP hS hl)
theorem l_a2 (C : lH Γ κ L xs) (d : decode code pc = .ok (.aload_n 2, 1)) (e : pc' = pc + 1) (h : lJ Γ κ i pc' (.ref (Γ.2.2.2.1 (10, 0, 0)) :: st) M) : lJ Γ κ i pc st M := by
  obtain ⟨p, e', s, m, below, meth, c, b, cells, slots⟩ := κ
  subst e
  intro H locs ls hP hS hl
  exact lv_aload_n C.1.1 C.1.2.1 d rfl (lv_at hl 1 rfl) (h H locs ls hP hS hl)
theorem l_bA {Γ : zC} {s : State} {p : Program} {m : MethodId} {meth : Method} {c : Code} {b L : Nat} {xs : Nat → Int32} (hA : lw_At p s m meth c b L xs) (hs : Γ.2.2.2.2 = s) : ¬ zA Γ b := fun z => by
  have h1 := hA.2.2.2.2.2.2.2.1
  have h2 : zb Γ ≤ b := z
  unfold zb at h2
  rw [hs] at h2
  omega
theorem l_int {n j : Nat} {jI : Int} (C : lH Γ κ L xs) (hi : i = iz (n : Int)) (hj : n + j < L) (hJ : Int32.ofInt jI = iz (j : Int)) (d0 : decode code pc = .ok (.aload_n 0, 1)) (d1 : decode code (pc + 1) = .ok (.iload_n 3, 1)) (d2 : decode code (pc + 1 + 1) = .ok (.iconst jI, 1)) (d3 : decode code (pc + 1 + 1 + 1) = .ok (.iadd, 1)) (d4 : decode code (pc + 1 + 1 + 1 + 1) = .ok (.iaload, 1)) (e : pc' = pc + 1 + 1 + 1 + 1 + 1) (h : lJ Γ κ i pc' (.int (xs (n + j)) :: st) M) : lJ Γ κ i pc st M := by
  obtain ⟨p, e', s, m, below, meth, c, b, cells, slots⟩ := κ
  obtain ⟨hA, hG, hs, hK, hL, hc1, hc2⟩ := C
  subst e
  subst hi
  intro H locs ls hP hS hl
  have hbA := l_bA hA hs
  refine lv_aload_n hA.1 hA.2.1 d0 rfl (lv_at hl 3 rfl) ?_
  refine lv_iload_n hA.1 hA.2.1 d1 rfl (lv_at hl 0 rfl) ?_
  refine lv_iconst hA.1 hA.2.1 d2 hJ ?_
  refine lv_iadd hA.1 hA.2.1 d3 ?_
  rw [iz_add, show (n : Int) + (j : Int) = ((n + j : Nat) : Int) by omega]
  refine va_sld hA.1 hA.2.1 hA.2.2.2.2.2.2.1 hA.2.2.2.2.2.2.2.1 hbA hS (iz_inN hj (by omega)) d4 ?_
  rw [iz_clN (by omega)]
  exact h H locs ls hP hS hl
theorem l_bool {x : Int32} {t1 t2 : Nat} (C : lH Γ κ L xs) (d0 : decode code pc = .ok (.ifCond .eq 7, 3)) (d1 : decode code (pc + 3) = .ok (.iconst 1, 1)) (d2 : decode code (pc + 3 + 1) = .ok (.goto 4, 3)) (d3 : decode code t1 = .ok (.iconst 0, 1)) (e1 : t1 = pc + 7) (e2 : t2 = pc + 8) (h : lJ Γ κ i t2 (.int (if x = 0 then 0 else 1) :: st) M) : lJ Γ κ i pc (.int x :: st) M := by
  obtain ⟨p, e', s, m, below, meth, c, b, cells, slots⟩ := κ
  subst e1
  subst e2
  intro H locs ls hP hS hl
  refine lv_if_eq C.1.1 C.1.2.1 (tgt := pc + 7) d0 (by omega) (fun z => ?_) (fun z => ?_)
  · rw [if_pos z] at h
    exact lv_iconst C.1.1 C.1.2.1 (v := 0) d3 rfl (h H locs ls hP hS hl)
  · rw [if_neg z] at h
    refine lv_iconst C.1.1 C.1.2.1 (v := 1) d1 rfl ?_
    exact lv_goto C.1.1 C.1.2.1 (tgt := pc + 8) d2 (by omega) (h H locs ls hP hS hl)
theorem l_call {μ cN idx : Nat} {as : List zV} {rest : List Value} {Q' : zQ} (C : lH Γ κ L xs) (hμ : Nat.blt μ znm = true) (hst : (zm μ).2.2.2.2.2.2.1 = false) (hc : (zm μ).1 = cN) (hp : (cN, 0, 0) ∈ zparts) (hcl : cN < 11) (has : ∀ v ∈ as, zok v) (hn : as.length = (zm μ).2.2.2.2.2.1) (hlink : Cond.methodLink "RoadBoardsLaw" idx (zm μ).2.2.2.2.1 ∈ WS) (hroom : (zrm μ).frames + 1 ≤ 13 ∧ 8 + ((zm μ).2.2.1 + 11) + (zrm μ).locals ≤ 502) (hw : (rest.map fun v => v.category).sum ≤ 8) (hs : st = (as.map (ztv Γ)).reverse ++ .ref (Γ.2.2.2.1 (cN, 0, 0)) :: rest) (d : decode code pc = .ok (.invokevirtual idx, 3)) (e : pc' = pc + 3) (hE : zEv Γ μ (zo cN 0 0 :: as) M Q') (kk : ∀ (o : Option zV) (M' : zM), Q' o M' → lJ Γ κ i pc' ((o.map (ztv Γ)).toList ++ rest) M') : lJ Γ κ i pc st M := by
  obtain ⟨p, e', s, m, below, meth, c, b, cells, slots⟩ := κ
  obtain ⟨hA, hG, hs0, hK, hL, hc1, hc2⟩ := C
  subst e
  intro H locs ls hP hS hl
  have hts : ∀ w ∈ WS, w.before #[Value.ref b] s = true := fun w h => hA.2.2.2.2.2.1 w (List.mem_filter.mp h).1
  obtain ⟨m1, m2, ⟨m3, m4, m5, m6⟩, m7, m8⟩ := zme_all μ (zblt hμ)
  rw [hst] at m8
  have hb0 : zb Γ ≤ s.heap.size := by
    unfold zb
    rw [hs0]
    exact Nat.le_refl _
  have hW0 : Γ.2.2.2.2.WarmedH s.vm := by
    rw [hs0]
    exact State.WarmedH.refl s
  have hlow : ∀ q : Nat, q < zb Γ → s.heap[q]? = Γ.2.2.2.2.heap[q]? := fun q _ => by rw [hs0]
  obtain ⟨q0, g1, g2⟩ := zwd_at (Γ := Γ) (M := M) hp
  have g2' : (zwd Γ M)[q0]? = some (Γ.2.2.2.1 (cN, 0, 0), .inr (cN, zfs Γ M cN 0)) := g2
  obtain ⟨cellB, c1, c2, c3⟩ := va_recv hK hP (zcl hcl) g2'
  have hok : ∀ v ∈ zo cN 0 0 :: as, zok v := fun v hv => by
    rcases List.mem_cons.mp hv with z | z
    · subst z
      intro q hq
      cases hq
      exact hp
    · exact has v z
  refine lback (va_runV (y := (zm μ).2.2.2.2.1) (C := (zm μ).2.2.2.2.1.cls) (As := as.map (ztv Γ)) (b := Γ.2.2.2.1 (cN, 0, 0)) (rest := rest) (g := F0 m pc ls st) (nL := ls.size) (Ts := WS) ⟨hA.1, hA.2.1, hA.2.2.2.1.trans hl.1.symm, hA.2.2.2.2.1, hts⟩ (hE hok hG) (n := (zm μ).2.2.2.2.2.1) (index := idx) (bytes := (zm μ).2.1) (maxL := (zm μ).2.2.1) (ret := (zm μ).2.2.2.1) (R := room_1) ⟨callB_of _ hts (zws_good 0 μ m1) rfl rfl rfl (hts _ m2) (hts _ hlink) ⟨m5, m6, m7⟩ hroom, hts _ m8.1, hts _ m8.2⟩ ⟨zblind Γ _ M, ⟨cellB, c1, c2, by rw [m3, hc]; exact c3⟩, fun U hU hW => ⟨rfl, zI_at hP hS hK hb0 hW0 hlow hU hW⟩⟩ rfl (by rw [List.length_map]; exact hn) rfl hs (lv_room hw) d ⟨hc1, hc2⟩) hS (fun o M' H1 locs1 hq hP1 hS1 => kk o M' hq H1 locs1 ls hP1 hS1 hl)
theorem l_eqI {v : Int32} {off : Int} {tgt : Nat} (C : lH Γ κ L xs) (d : decode code pc = .ok (.if_icmp .eq off, 3)) (ht : (pc : Int) + off = (tgt : Int)) (h : lJ Γ κ i tgt st M) : lJ Γ κ i pc (.int v :: .int v :: st) M := by
  obtain ⟨p, e', s, m, below, meth, c, b, cells, slots⟩ := κ
  intro H locs ls hP hS hl
  exact lv_icmp_eq C.1.1 C.1.2.1 (tgt := tgt) d ht (fun _ => h H locs ls hP hS hl) (fun z => absurd rfl z)
theorem l_eqL {v : Int64} {off : Int} {tgt : Nat} (C : lH Γ κ L xs) (d0 : decode code pc = .ok (.lcmp, 1)) (d : decode code (pc + 1) = .ok (.ifCond .eq off, 3)) (ht : ((pc + 1 : Nat) : Int) + off = (tgt : Int)) (h : lJ Γ κ i tgt st M) : lJ Γ κ i pc (.long v :: .long v :: st) M := by
  obtain ⟨p, e', s, m, below, meth, c, b, cells, slots⟩ := κ
  intro H locs ls hP hS hl
  refine W.lcmp C.1.1 C.1.2.1 d0 ?_
  exact lv_if_eq C.1.1 C.1.2.1 (tgt := tgt) d ht (fun _ => h H locs ls hP hS hl) (fun z => absurd (by rw [lg_eq]) z)
theorem zok_is {l : List Int32} : ∀ v ∈ l.map zi, zok v := fun v hv => by
  obtain ⟨x, _, rfl⟩ := List.mem_map.mp hv
  exact zok_i x
end Zb5
