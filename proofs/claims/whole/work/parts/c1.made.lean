/-! objects being made, one cell behind the other: h .. h+n-1 hold F, and nothing lies behind them -/
def kup (F : Nat → va_E) (i : Nat) (x : va_E) : Nat → va_E := fun k => bif Nat.beq k i then x else F k
def kcat (F : Nat → va_E) (i : Nat) (E : Nat → va_E) : Nat → va_E := fun k => bif Nat.blt k i then F k else E (k - i)
theorem kup_eq {F : Nat → va_E} {i : Nat} {x : va_E} : kup F i x i = x := by simp [kup]
theorem kup_ne {F : Nat → va_E} {i k : Nat} {x : va_E} (h : k ≠ i) : kup F i x k = F k := by
  have : Nat.beq k i = false := by
    cases e : Nat.beq k i with
    | false => rfl
    | true => exact absurd (Nat.eq_of_beq_eq_true e) h
  simp only [kup, this, cond_false]
theorem kcat_lt {F E : Nat → va_E} {i k : Nat} (h : k < i) : kcat F i E k = F k := by
  have : Nat.blt k i = true := Nat.ble_eq_true_of_le h
  simp only [kcat, this, cond_true]
theorem kcat_ge {F E : Nat → va_E} {i k : Nat} (h : i ≤ k) : kcat F i E k = E (k - i) := by
  have : Nat.blt k i = false := by
    cases e : Nat.blt k i with
    | false => rfl
    | true => exact absurd (Nat.le_of_ble_eq_true e) (by omega)
  simp only [kcat, this, cond_false]
def kws (h n : Nat) (F : Nat → va_E) : va_W := (List.range n).map (fun k => (h + k, F k))
theorem kws_get {h n k : Nat} {F : Nat → va_E} (hk : k < n) : (kws h n F)[k]? = some (h + k, F k) := by
  unfold kws
  rw [List.getElem?_map, List.getElem?_range hk]
  rfl
theorem kws_len {h n : Nat} {F : Nat → va_E} : (kws h n F).length = n := by simp [kws]
theorem kws_at {h n k : Nat} {F : Nat → va_E} {q : Nat × va_E} (h1 : (kws h n F)[k]? = some q) : k < n ∧ q = (h + k, F k) := by
  have hk : k < n := by
    have := (List.getElem?_eq_some_iff.mp h1).1
    rw [kws_len] at this
    exact this
  exact ⟨hk, (Option.some.inj ((kws_get hk).symm.trans h1)).symm⟩
theorem kws_D {h n : Nat} {F : Nat → va_E} : va_D (fun q => h ≤ q) (kws h n F) := ⟨fun i j p q hi hj e => by
    obtain ⟨_, rfl⟩ := kws_at hi
    obtain ⟨_, rfl⟩ := kws_at hj
    exact Nat.add_left_cancel e, fun k q hk => by
    obtain ⟨_, rfl⟩ := kws_at hk
    exact Nat.le_add_right _ _⟩
def kW (D : va_G) (h n : Nat) (F : Nat → va_E) (H : Heap) : Prop := H.size = h + n ∧ va_P D vwCl (kws h n F) H
section Zc1
variable {D : va_G} {h n i k : Nat} {F : Nat → va_E} {x : va_E} {H H1 : Heap}
theorem kW.at (hP : kW D h n F H) (hk : k < n) : va_at D vwCl (h + k, F k) H := hP.2 k _ (kws_get hk)
theorem kW.of (hz : H.size = h + n) (ha : ∀ k, k < n → va_at D vwCl (h + k, F k) H) : kW D h n F H := ⟨hz, fun k q hk => by
  obtain ⟨h1, rfl⟩ := kws_at hk
  exact ha k h1⟩
theorem kW.push (hP : kW D h n F H) (hz : H1.size = h + n + 1) (ho : ∀ q, q < h + n → H1[q]? = H[q]?) (ha : va_at D vwCl (h + n, x) H1) : kW D h (n + 1) (kup F n x) H1 := kW.of hz (fun k hk => by
  by_cases e : k = n
  · subst e
    rw [kup_eq]
    exact ha
  · rw [kup_ne e]
    exact (hP.at (by omega)).kept (ho _ (by show h + k < h + n; omega)))
theorem kset_self (hi : i < n) : ((kws h n F).set i (h + i, x))[i]? = some (h + i, x) := by rw [List.getElem?_set_self (by rw [kws_len]; exact hi)]
theorem kset_ne (hk : k < n) (e : k ≠ i) : ((kws h n F).set i (h + i, x))[k]? = some (h + k, F k) := by rw [List.getElem?_set_ne (Ne.symm e)]; exact kws_get hk
theorem kset_size (hi : i < n) (hP1 : va_P D vwCl ((kws h n F).set i (h + i, x)) H1) : h + n ≤ H1.size := by
  by_cases e : n - 1 = i
  · have := (hP1 i _ (kset_self hi)).lt
    have : h + i < H1.size := this
    omega
  · have := (hP1 (n - 1) _ (kset_ne (by omega) e)).lt
    have : h + (n - 1) < H1.size := this
    omega
theorem kW.set (hz : H1.size = h + n) (hi : i < n) (hP1 : va_P D vwCl ((kws h n F).set i (h + i, x)) H1) : kW D h n (kup F i x) H1 := kW.of hz (fun k hk => by
  by_cases e : k = i
  · subst e
    rw [kup_eq]
    exact hP1 k _ (kset_self hk)
  · rw [kup_ne e]
    exact hP1 k _ (kset_ne hk e))
theorem kW.cat {E : Nat → va_E} {N : Nat} (hP : kW D h n F H) (hi : i ≤ n) (ho : ∀ q, q < h + i → H1[q]? = H[q]?) (hE : kW D (h + i) N E H1) : kW D h (i + N) (kcat F i E) H1 := kW.of (hE.1.trans (by omega)) (fun k hk => by
  by_cases e : k < i
  · rw [kcat_lt e]
    exact (hP.at (by omega)).kept (ho _ (by show h + k < h + i; omega))
  · rw [kcat_ge (by omega)]
    have := hE.at (k := k - i) (by omega)
    rw [show h + i + (k - i) = h + k by omega] at this
    exact this)
end Zc1
/-- who may be made by whom: nest mates' private constructors (the maker's class, its link, the class made) -/
def kNest : List (Nat × Nat × Nat) := [(8, 25, 7), (9, 26, 5), (5, 11, 7), (9, 33, 2), (9, 40, 6), (6, 11, 2), (9, 47, 3), (9, 54, 0), (0, 11, 2), (9, 61, 4), (4, 11, 2), (9, 68, 1)]
def kIn (c : Nat) : MethodName := { cls := zR c, name := "<init>", desc := "()V" }
def kN (U : State) : Prop := (∀ e ∈ kNest, va_Nw (.methodLinkNest (zR e.1) e.2.1 (kIn e.2.2) "RoadBoards") U) ∧ va_AO (zR 7) U ∧ va_AO (zR 8) U
theorem kN.warm {s U : State} (hW : s.WarmedH U.vm) (h : kN s) : kN U := ⟨fun e he => (h.1 e he).warmM hW, h.2.1.moved hW.alike, h.2.2.moved hW.alike⟩
theorem kN.same {u U : State} (hv : u.vm = U.vm) (h : kN u) : kN U := ⟨fun e he => (h.1 e he).same rfl hv, h.2.1.moved (hv ▸ Vm.Alike.refl u.vm), h.2.2.moved (hv ▸ Vm.Alike.refl u.vm)⟩
/-- an object's fields when it is new -/
def zdf (c : Nat) : List Value := (List.range (zN c)).map (fun k => defaultValue (zty c k))
theorem zdf_at {c j : Nat} (h : j < zN c) : defaultValue (zty c j) = vp_V (zdf c) j := by
  unfold vp_V zdf
  simp [h]
theorem zdf_len {c : Nat} : (zdf c).length = zN c := by simp [zdf]
def kPre (Γ : zC) (c1 h : Nat) (U : State) : Prop := U.heap.size = h + 1 ∧ va_at Γ.2.1 vwCl (h, .inr (c1, zdf c1)) U.heap ∧ va_K Γ.2.1 vwCl (ztys Γ) U ∧ kN U
def kQc (Γ : zC) (h N : Nat) (E : Nat → va_E) : Array Value → State → Outcome → State → Prop := fun _ st oc t => oc = .returned none ∧ kW Γ.2.1 h N E t.heap ∧ va_F (fun q => h ≤ q) st t
theorem kblind (Γ : zC) (c1 h : Nat) (av : List Value) : FrameBlind (va_Pc av (kPre Γ c1 h)) := fun a U g mk z => ⟨z.1, z.2.1, z.2.2.1, va_K.moved (u := U) (U := U.calling g mk a) (Vm.Alike.refl U.vm) z.2.2.2.1, kN.same (u := U) (U := U.calling g mk a) rfl z.2.2.2.2⟩
