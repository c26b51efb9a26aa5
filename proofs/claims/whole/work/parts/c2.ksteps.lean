/-! a constructor's steps -/
abbrev kX : Type := Program × Env × State × MethodId × Array Value × List Frame × Method × Code × Room × (State → Prop)
def kRm (κ : kX) : Room := κ.2.2.2.2.2.2.2.2.1
def kMn (κ : kX) : String := κ.2.2.2.2.2.2.1.name
/-- z = 1: a constructor, whose object is there at its entry; z = 0: the law -/
def kC (Γ : zC) (κ : kX) (own : String) (cc : ByteArray) (nL h z : Nat) : Prop := match κ with
  | (p, _, s, m, args, _, _, c, _, _) => p.tables.exec = Jvm.exec ∧ c.code = cc ∧ c.maxLocals = nL ∧ s.vm.findClass own = some m.cls ∧ (∀ w ∈ WS, w.before args s = true) ∧ va_K Γ.2.1 vwCl (ztys Γ) s ∧ kN s ∧ s.heap.size = h + z
def kG (Γ : zC) (κ : kX) (h cells slots n : Nat) (F : Nat → va_E) (pc : Nat) (ls : Array Slot) (st : List Value) : Prop := match κ with
  | (p, e, s, m, args, below, meth, c, R, Q) => ∀ (H : Heap) (locs : List Loc), kW Γ.2.1 h n F H → va_S (fun q => h ≤ q) s.heap H locs → W p Γ.1 e R s m args below meth c H locs cells slots Q (F0 m pc ls st)
theorem k_size {p : Program} {l : Launch} {e : Env} {R : Room} {s : State} {m : MethodId} {args : Array Value} {below : List Frame} {meth : Method} {c : Code} {H : Heap} {locs : List Loc} {cells slots : Nat} {Q : State → Prop} {g : JFrame} (k : H.size ≤ s.heap.size + cells → W p l e R s m args below meth c H locs cells slots Q g) : W p l e R s m args below meth c H locs cells slots Q g := fun T hT X => k (by
  have := X.same.2.2.1
  rw [← hT]
  exact this) T hT X
/-- a new cell is the next one -/
theorem k_fresh {D : va_G} {h n q : Nat} {F : Nat → va_E} {x : va_E} {H1 : Heap} (hP : va_P D vwCl (kws h n F ++ [(q, x)]) H1) (hD : va_D (fun q => h ≤ q) (kws h n F ++ [(q, x)])) (hz : H1.size ≤ h + n + 1) : q = h + n ∧ kW D h (n + 1) (kup F n x) H1 := by
  have hn : (kws h n F ++ [(q, x)])[n]? = some (q, x) := by
    rw [List.getElem?_append_right (by rw [kws_len]; exact Nat.le_refl _), kws_len, Nat.sub_self]
    rfl
  have hk : ∀ k, k < n → (kws h n F ++ [(q, x)])[k]? = some (h + k, F k) := fun k hk => by
    rw [List.getElem?_append_left (by rw [kws_len]; exact hk)]
    exact kws_get hk
  have h1 : q < H1.size := (hP n _ hn).lt
  have h2 : h ≤ q := hD.2 n _ hn
  have h3 : q = h + n := by
    rcases Nat.lt_or_ge q (h + n) with e | e
    · have := hD.1 n (q - h) _ _ hn (hk (q - h) (by omega)) (show q = h + (q - h) by omega)
      omega
    · omega
  refine ⟨h3, kW.of (by omega) (fun k hkn => ?_)⟩
  by_cases e : k = n
  · subst e
    rw [kup_eq, ← h3]
    exact hP k _ hn
  · rw [kup_ne e]
    exact hP k _ (hk k (by omega))
section Zc2
variable {Γ : zC} {κ : kX} {own : String} {cc : ByteArray} {nL h z cells slots n cells' slots' n' pc pc' : Nat} {F : Nat → va_E} {ls : Array Slot} {st : List Value}
theorem k_al {a : Nat} (C : kC Γ κ own cc nL h z) (hl : ls[0]? = some (.val (.ref a))) (d : decode cc pc = .ok (.aload_n 0, 1)) (e : pc' = pc + 1) (k : kG Γ κ h cells slots n F pc' ls (.ref a :: st)) : kG Γ κ h cells slots n F pc ls st := by
  obtain ⟨p, e', s, m, args, below, meth, c, R, Q⟩ := κ
  subst e
  exact fun H locs hP hS => lv_aload_n C.1 C.2.1 d rfl hl (k H locs hP hS)
theorem k_ic {x : Int} {v : Int32} (C : kC Γ κ own cc nL h z) (d : decode cc pc = .ok (.iconst x, 1)) (hv : Int32.ofInt x = v) (e : pc' = pc + 1) (k : kG Γ κ h cells slots n F pc' ls (.int v :: st)) : kG Γ κ h cells slots n F pc ls st := by
  obtain ⟨p, e', s, m, args, below, meth, c, R, Q⟩ := κ
  subst e
  exact fun H locs hP hS => lv_iconst C.1 C.2.1 d hv (k H locs hP hS)
theorem k_bp {x : Int} {v : Int32} (C : kC Γ κ own cc nL h z) (d : decode cc pc = .ok (.bipush x, 2)) (hv : (Int8.ofInt x).toInt32 = v) (e : pc' = pc + 2) (k : kG Γ κ h cells slots n F pc' ls (.int v :: st)) : kG Γ κ h cells slots n F pc ls st := by
  obtain ⟨p, e', s, m, args, below, meth, c, R, Q⟩ := κ
  subst e
  exact fun H locs hP hS => lv_bipush C.1 C.2.1 d hv (k H locs hP hS)
theorem k_sp {x : Int} {v : Int32} (C : kC Γ κ own cc nL h z) (d : decode cc pc = .ok (.sipush x, 3)) (hv : (Int16.ofInt x).toInt32 = v) (e : pc' = pc + 3) (k : kG Γ κ h cells slots n F pc' ls (.int v :: st)) : kG Γ κ h cells slots n F pc ls st := by
  obtain ⟨p, e', s, m, args, below, meth, c, R, Q⟩ := κ
  subst e
  exact fun H locs hP hS => lv_sipush C.1 C.2.1 d hv (k H locs hP hS)
theorem k_du {a : Nat} (C : kC Γ κ own cc nL h z) (d : decode cc pc = .ok (.dup, 1)) (e : pc' = pc + 1) (k : kG Γ κ h cells slots n F pc' ls (.ref a :: .ref a :: st)) : kG Γ κ h cells slots n F pc ls (.ref a :: st) := by
  obtain ⟨p, e', s, m, args, below, meth, c, R, Q⟩ := κ
  subst e
  exact fun H locs hP hS => lv_dup C.1 C.2.1 d rfl (k H locs hP hS)
theorem k_il {x : Int32} (C : kC Γ κ own cc nL h z) (hl : ls[1]? = some (.val (.int x))) (d : decode cc pc = .ok (.iload_n 1, 1)) (e : pc' = pc + 1) (k : kG Γ κ h cells slots n F pc' ls (.int x :: st)) : kG Γ κ h cells slots n F pc ls st := by
  obtain ⟨p, e', s, m, args, below, meth, c, R, Q⟩ := κ
  subst e
  exact fun H locs hP hS => lv_iload_n C.1 C.2.1 d rfl hl (k H locs hP hS)
theorem k_is {a : Nat} {x : Int32} {lv : List (Nat × Value)} (C : kC Γ κ own cc nL h z) (hl : lv_has ls 2 lv) (hv : (1, Value.int x) :: lv.filter (fun q => !(q.1 == 1) && !(q.1 + 1 == 1 && q.2.category == 2)) = [(1, .int x), (0, .ref a)]) (d : decode cc pc = .ok (.istore_n 1, 1)) (e : pc' = pc + 1) (k : ∀ ls' : Array Slot, lv_has ls' 2 [(1, .int x), (0, .ref a)] → kG Γ κ h cells slots n F pc' ls' st) : kG Γ κ h cells slots n F pc ls (.int x :: st) := by
  obtain ⟨p, e', s, m, args, below, meth, c, R, Q⟩ := κ
  subst e
  exact fun H locs hP hS => lv_istore_n C.1 C.2.1 d rfl hl (by decide) hv (fun ls' hl' => k ls' hl' H locs hP hS)
theorem k_ii {a : Nat} {x y : Int32} (C : kC Γ κ own cc nL h z) (hl : lv_has ls 2 [(1, .int x), (0, .ref a)]) (hy : x + Int32.ofInt 1 = y) (d : decode cc pc = .ok (.iinc 1 1, 3)) (e : pc' = pc + 3) (k : ∀ ls' : Array Slot, lv_has ls' 2 [(1, .int y), (0, .ref a)] → kG Γ κ h cells slots n F pc' ls' st) : kG Γ κ h cells slots n F pc ls st := by
  obtain ⟨p, e', s, m, args, below, meth, c, R, Q⟩ := κ
  subst e
  exact fun H locs hP hS => lv_iinc (k := 0) C.1 C.2.1 d hl rfl hy (by decide) rfl (fun ls' hl' => k ls' hl' H locs hP hS)
theorem k_go {off : Int} (C : kC Γ κ own cc nL h z) (d : decode cc pc = .ok (.goto off, 3)) (e : (pc : Int) + off = (pc' : Int)) (k : kG Γ κ h cells slots n F pc' ls st) : kG Γ κ h cells slots n F pc ls st := by
  obtain ⟨p, e', s, m, args, below, meth, c, R, Q⟩ := κ
  exact fun H locs hP hS => lv_goto C.1 C.2.1 d e (k H locs hP hS)
theorem k_oi {a idx : Nat} (C : kC Γ κ own cc nL h z) (hsz : ls.size = nL) (hw : Cond.methodLink own idx Lib.objectInit ∈ WS) (hR : 1 ≤ (kRm κ).frames ∧ 20 ≤ (kRm κ).locals) (hst : (st.map fun v => v.category).sum ≤ 8) (d : decode cc pc = .ok (.invokespecial idx, 3)) (e : pc' = pc + 3) (k : kG Γ κ h cells slots n F pc' ls st) : kG Γ κ h cells slots n F pc ls (.ref a :: st) := by
  obtain ⟨p, e', s, m, args, below, meth, c, R, Q⟩ := κ
  subst e
  obtain ⟨hx, hb, hml, hown, hts, hK, hN, hz⟩ := C
  exact fun H locs hP hS => W.objInit hx hb hown (hts _ hw) (hts _ (zi1 25 (by decide +kernel) (by decide +kernel))) (hts _ (zi1 26 (by decide +kernel) (by decide +kernel))) (g := F0 m pc ls (.ref a :: st)) rfl (hsz.trans hml.symm) rfl d hR.1 (by
    have h1 := lv_room (m := m) (pc := pc) (ls := ls) (rest := .ref a :: st) hst
    have h2 : 20 ≤ R.locals := hR.2
    omega) (k H locs hP hS)
/-- a new array of ints, booleans, bytes (t: its kind) or longs -/
theorem k_na {atype : ArrayType} {t N : Nat} {x : Int32} {ty : FieldType} {a0 : vp_A} (C : kC Γ κ own cc nL h z) (hty : newarray.typeOf atype = ty) (hw : Cond.arrayClass (newarray.typeOf atype) ∈ WS) (ht : (ztys Γ)[t]? = some (Γ.2.2.1 t, ty)) (hra : ∀ (U : State) (cA : ClassId), va_RA U cA ty → U.vm.findClass ("[" ++ ty.toString) = some cA) (ha : ∀ cA : ClassId, vp_cell cA a0 = arrV cA N (fun _ => defaultValue ty)) (hx : ¬ x < 0 ∧ x.toNatClampNeg = N ∧ N * componentBytes ty ≤ 536870912) (hn : z + cells = n ∧ cells + 1 ≤ (kRm κ).cells ∧ slots + N ≤ (kRm κ).slots) (d : decode cc pc = .ok (.newarray atype, 2)) (e : pc' = pc + 2) (ec : cells' = cells + 1) (es : slots' = slots + N) (en : n' = n + 1)
    (k : kG Γ κ h cells' slots' n' (kup F n (.inl (Γ.2.2.1 t, a0))) pc' ls (.ref (h + n) :: st)) : kG Γ κ h cells slots n F pc ls (.int x :: st) := by
  obtain ⟨p, e', s, m, args, below, meth, c, R, Q⟩ := κ
  subst e; subst ec; subst es; subst en
  obtain ⟨hx1, hb, hml, hown, hts, hK, hN, hz⟩ := C
  intro H locs hP hS
  refine va_newa hx1 hb (hts _ hw) hty hK hP.2 kws_D hS (fun q hq => by rw [hz] at hq; omega) ha hx.1 hx.2.1 hx.2.2 hn.2.1 hn.2.2 d fun q cA H1 hK1 hP1 hD1 hS1 => k_size fun hsz => ?_
  have hcA : cA = Γ.2.2.1 t := by
    have h1 := hra _ _ (hK1.2 (ztys Γ).length (cA, ty) (by rw [List.getElem?_append_right (Nat.le_refl _), Nat.sub_self]; rfl)).2
    have h2 := hra _ _ (hK.2 t _ ht).2
    exact Option.some.inj (h1.symm.trans h2)
  subst hcA
  obtain ⟨e1, e2⟩ := k_fresh hP1 hD1 (by have := hn.1; omega)
  subst e1
  exact k H1 locs e2 hS1
theorem k_nq {c1 t N idx : Nat} {x : Int32} (C : kC Γ κ own cc nL h z) (hao : ∀ U, kN U → va_AO (zR c1) U) (hw : Cond.classLink own idx (zR c1) ∈ WS) (ht : (ztys Γ)[t]? = some (Γ.2.2.1 t, .object (zR c1))) (hx : ¬ x < 0 ∧ x.toNatClampNeg = N ∧ N * 4 ≤ 536870912) (hn : z + cells = n ∧ cells + 1 ≤ (kRm κ).cells ∧ slots + N ≤ (kRm κ).slots) (d : decode cc pc = .ok (.anewarray idx, 3)) (e : pc' = pc + 3) (ec : cells' = cells + 1) (es : slots' = slots + N) (en : n' = n + 1)
    (k : kG Γ κ h cells' slots' n' (kup F n (.inl (Γ.2.2.1 t, N, .inr (.inr (.inr (.inr (fun _ => none))))))) pc' ls (.ref (h + n) :: st)) : kG Γ κ h cells slots n F pc ls (.int x :: st) := by
  obtain ⟨p, e', s, m, args, below, meth, c, R, Q⟩ := κ
  subst e; subst ec; subst es; subst en
  obtain ⟨hx1, hb, hml, hown, hts, hK, hN, hz⟩ := C
  intro H locs hP hS
  refine va_newq hx1 hb hown (hts _ hw) (hao s hN) hK hP.2 kws_D hS (fun q hq => by rw [hz] at hq; omega) hx.1 hx.2.1 hx.2.2 hn.2.1 hn.2.2 d fun q cA H1 hK1 hP1 hD1 hS1 => k_size fun hsz => ?_
  have hcA : cA = Γ.2.2.1 t := by
    obtain ⟨_, _, _, _, _, h1⟩ := (hK1.2 (ztys Γ).length (cA, .object (zR c1)) (by rw [List.getElem?_append_right (Nat.le_refl _), Nat.sub_self]; rfl)).2
    obtain ⟨_, _, _, _, _, h2⟩ := (hK.2 t _ ht).2
    exact Option.some.inj (h1.symm.trans h2)
  subst hcA
  obtain ⟨e1, e2⟩ := k_fresh hP1 hD1 (by have := hn.1; omega)
  subst e1
  exact k H1 locs e2 hS1
theorem k_nw {c1 idx : Nat} (C : kC Γ κ own cc nL h z) (hc : c1 < 11) (hw : Cond.classLink own idx (zR c1) ∈ WS) (hi : Cond.instantiable (zR c1) (zN c1) ∈ WS) (hini : Cond.initialized (zR c1) ∈ WS) (hn : z + cells = n ∧ cells + 1 ≤ (kRm κ).cells ∧ slots + zN c1 ≤ (kRm κ).slots) (d : decode cc pc = .ok (.new idx, 3)) (e : pc' = pc + 3) (ec : cells' = cells + 1) (es : slots' = slots + zN c1) (en : n' = n + 1)
    (k : kG Γ κ h cells' slots' n' (kup F n (.inr (c1, zdf c1))) pc' ls (.ref (h + n) :: st)) : kG Γ κ h cells slots n F pc ls st := by
  obtain ⟨p, e', s, m, args, below, meth, c, R, Q⟩ := κ
  subst e; subst ec; subst es; subst en
  obtain ⟨hx1, hb, hml, hown, hts, hK, hN, hz⟩ := C
  intro H locs hP hS
  refine va_new (C := zR c1) (T := zT c1) (N := zN c1) (ci := c1) hx1 hb hts (zinW hc) (zty c1) (ztyok hc) hown (hts _ hw) (hts _ hi) (hts _ hini) hK hP.2 kws_D hS (fun q hq => by rw [hz] at hq; omega) (zcl hc) (fun j hj => zdf_at hj) hn.2.1 hn.2.2 d fun q H1 hP1 hD1 hS1 => k_size fun hsz => ?_
  obtain ⟨e1, e2⟩ := k_fresh hP1 hD1 (by have := hn.1; omega)
  subst e1
  exact k H1 locs e2 hS1
/-- a final field of the object that is made -/
theorem k_pF {c1 f idx : Nat} {v : Value} {fs : List Value} (C : kC Γ κ (zR c1) cc nL h z) (hin : kMn κ = "<init>") (hc : c1 < 11) (hk : f < zN c1) (h0 : F 0 = .inr (c1, fs)) (hfl : (zflT.getD c1 []).contains (idx, c1, f) = true) (hfin : (zT c1 f).2.2.2 = true ∧ (zT c1 f).1 = zR c1) (hv : narrow (zty c1 f) v = v ∧ fits (zty c1 f) v = true ∧ f < fs.length) (hn : z + cells = n ∧ 0 < n) (d : decode cc pc = .ok (.putfield idx, 3)) (e : pc' = pc + 3)
    (k : kG Γ κ h cells slots n (kup F 0 (.inr (c1, fs.set f v))) pc' ls st) : kG Γ κ h cells slots n F pc ls (v :: .ref h :: st) := by
  obtain ⟨p, e', s, m, args, below, meth, c, R, Q⟩ := κ
  subst e
  obtain ⟨hx1, hb, hml, hown, hts, hK, hN, hz⟩ := C
  intro H locs hP hS
  refine va_putF (C := zR c1) (T := zT c1) (N := zN c1) (ci := c1) hx1 hb hts (zinW hc) (zty c1) (ztyok hc) (znmok hc) hown hK hP.2 kws_D hS 0 (by rw [kws_get hn.2, h0]; rfl) (zcl hc) f hk (hts _ (zflok (by omega) (idx, c1, f) (List.contains_iff_mem.mp hfl))) (fun _ h9 => h9) hfin.1 hin hfin.2 (ztyok hc f hk) hv.1 hv.2.1 hv.2.2 d fun H1 locs1 hP1 _ hS1 => k_size fun hsz => ?_
  exact k H1 locs1 (kW.set (i := 0) (by have := kset_size (i := 0) hn.2 hP1; have := hn.1; omega) hn.2 hP1) hS1
theorem k_pu {c1 f idx : Nat} {v : Value} {fs : List Value} (C : kC Γ κ (zR c1) cc nL h z) (hc : c1 < 11) (hk : f < zN c1) (h0 : F 0 = .inr (c1, fs)) (hfl : (zflT.getD c1 []).contains (idx, c1, f) = true) (hfin : (zT c1 f).2.2.2 = false) (hv : narrow (zty c1 f) v = v ∧ fits (zty c1 f) v = true ∧ f < fs.length) (hn : z + cells = n ∧ 0 < n) (d : decode cc pc = .ok (.putfield idx, 3)) (e : pc' = pc + 3)
    (k : kG Γ κ h cells slots n (kup F 0 (.inr (c1, fs.set f v))) pc' ls st) : kG Γ κ h cells slots n F pc ls (v :: .ref h :: st) := by
  obtain ⟨p, e', s, m, args, below, meth, c, R, Q⟩ := κ
  subst e
  obtain ⟨hx1, hb, hml, hown, hts, hK, hN, hz⟩ := C
  intro H locs hP hS
  refine va_put (C := zR c1) (T := zT c1) (N := zN c1) (ci := c1) hx1 hb hts (zinW hc) (zty c1) (ztyok hc) (znmok hc) hown hK hP.2 kws_D hS 0 (by rw [kws_get hn.2, h0]; rfl) (zcl hc) f hk (hts _ (zflok (by omega) (idx, c1, f) (List.contains_iff_mem.mp hfl))) (fun _ h9 => h9) hfin (ztyok hc f hk) hv.1 hv.2.1 hv.2.2 d fun H1 locs1 hP1 _ hS1 => k_size fun hsz => ?_
  exact k H1 locs1 (kW.set (i := 0) (by have := kset_size (i := 0) hn.2 hP1; have := hn.1; omega) hn.2 hP1) hS1
theorem k_gf {c1 f idx : Nat} {v : Value} {fs : List Value} (C : kC Γ κ (zR c1) cc nL h z) (hc : c1 < 11) (hk : f < zN c1) (h0 : F 0 = .inr (c1, fs)) (hfl : (zflT.getD c1 []).contains (idx, c1, f) = true) (hv : fs[f]? = some v) (hn : 0 < n) (d : decode cc pc = .ok (.getfield idx, 3)) (e : pc' = pc + 3)
    (k : kG Γ κ h cells slots n F pc' ls (v :: st)) : kG Γ κ h cells slots n F pc ls (.ref h :: st) := by
  obtain ⟨p, e', s, m, args, below, meth, c, R, Q⟩ := κ
  subst e
  obtain ⟨hx1, hb, hml, hown, hts, hK, hN, hz⟩ := C
  intro H locs hP hS
  exact va_get (C := zR c1) (T := zT c1) (N := zN c1) (ci := c1) hx1 hb hts (zinW hc) hown hK hP.2 0 (by rw [kws_get hn, h0]; rfl) (zcl hc) f hk (hts _ (zflok (by omega) (idx, c1, f) (List.contains_iff_mem.mp hfl))) (fun _ h9 => h9) hv d (k H locs hP hS)
end Zc2
