/-! The small machine is sound: what zwp says holds of the machine. -/
/-- the launch, the classes' numbers and slots, the arrays' classes, where each part lies, and the state at the law's start -/
abbrev zC : Type := Launch × va_G × (Nat → ClassId) × (Nat × Nat × Nat → Nat) × State
def zb (Γ : zC) : Nat := Γ.2.2.2.2.heap.size
def zA (Γ : zC) : Nat → Prop := fun q => zb Γ ≤ q
def ztv (Γ : zC) (v : zV) : Value := match v with
  | .inl x => .int x
  | .inr (.inl x) => .long x
  | .inr (.inr none) => .null
  | .inr (.inr (some p)) => .ref (Γ.2.2.2.1 p)
def zac (Γ : zC) (c kd : Nat) : ClassId := match kd with
  | 4 => bif Nat.beq c 8 then Γ.2.2.1 4 else Γ.2.2.1 5
  | k => Γ.2.2.1 k
def ztys (Γ : zC) : List (ClassId × FieldType) := [(Γ.2.2.1 0, .int), (Γ.2.2.1 1, .long), (Γ.2.2.1 2, .boolean), (Γ.2.2.1 3, .byte), (Γ.2.2.1 4, .object RX7), (Γ.2.2.1 5, .object RX8)]
def zcont (Γ : zC) (M : zM) (kd c t f : Nat) : (Nat → Int32) ⊕ (Nat → Int64) ⊕ (Nat → UInt32) ⊕ (Nat → UInt64) ⊕ (Nat → Option Nat) := match kd with
  | 1 => .inr (.inl (M.2 c t f))
  | 4 => .inr (.inr (.inr (.inr (fun j => some (Γ.2.2.2.1 (zrf c t j))))))
  | _ => .inl (M.1 c t f)
def zfs (Γ : zC) (M : zM) (c t : Nat) : List Value := (List.range (zN c)).map (fun k => ztv Γ (zfv c t k M))
def zent (Γ : zC) (M : zM) (p : Nat × Nat × Nat) : va_E := match zar p.1 p.2.2 with
  | some q => .inl (zac Γ p.1 q.1, q.2, zcont Γ M q.1 p.1 p.2.1 p.2.2)
  | none => .inr (p.1, zfs Γ M p.1 p.2.1)
def zwd (Γ : zC) (M : zM) : va_W := zparts.map (fun p => (Γ.2.2.2.1 p, zent Γ M p))
/-- the parts lie apart, all new since the law's start -/
def zG (Γ : zC) : Prop := (∀ p ∈ zparts, ∀ q ∈ zparts, Γ.2.2.2.1 p = Γ.2.2.2.1 q → p = q) ∧ ∀ p ∈ zparts, zb Γ ≤ Γ.2.2.2.1 p
def zok (v : zV) : Prop := ∀ p, v = .inr (.inr (some p)) → p ∈ zparts
/-- a state of the machine holds the memory M -/
def zI (Γ : zC) (M : zM) (U : State) : Prop := va_P Γ.2.1 vwCl (zwd Γ M) U.heap ∧ va_K Γ.2.1 vwCl (ztys Γ) U ∧ zb Γ ≤ U.heap.size ∧ Γ.2.2.2.2.WarmedH U.vm ∧ ∀ q : Nat, q < zb Γ → U.heap[q]? = Γ.2.2.2.2.heap[q]?
def zQc (Γ : zC) (Q : zQ) : Array Value → State → Outcome → State → Prop := fun _ st oc t => (∃ (r : Option zV) (M' : zM), oc = .returned (r.map (ztv Γ)) ∧ Q r M' ∧ (∀ v, r = some v → zok v) ∧ zI Γ M' t) ∧ va_F (zA Γ) st t
def zws (μ : Nat) : List Cond := Cond.code (zm μ).2.2.2.2.1 (zm μ).2.1 (zm μ).2.2.1 (zm μ).2.2.2.1 :: WS
def zrm (μ : Nat) : Room := { frames := (zm μ).2.2.2.2.2.2.2.1, cells := 0, slots := 0, locals := (zm μ).2.2.2.2.2.2.2.2 }
/-- method μ, called with these arguments on the memory M, returns, and Q holds of its answer and the memory then -/
def zEv (Γ : zC) (μ : Nat) (as : List zV) (M : zM) (Q : zQ) : Prop := (∀ v ∈ as, zok v) → zG Γ → Met Γ.1 (zm μ).2.2.2.2.1 (zws μ) (zrm μ) (va_Pc (as.map (ztv Γ)) (zI Γ M)) (zQc Γ Q) 0 0 (zA Γ)
def zCx (Γ : zC) (μ : Nat) (p : Program) (s : State) (m : MethodId) (args : Array Value) (meth : Method) (c : Code) : Prop := p.tables.exec = Jvm.exec ∧ c.code = (zm μ).2.1 ∧ c.maxLocals = (zm μ).2.2.1 ∧ s.vm.findClass (zR (zm μ).1) = some m.cls ∧ (∀ w ∈ WS, w.before args s = true) ∧ meth.sig.returnType = (zm μ).2.2.2.1 ∧ meth.locks = false ∧ va_K Γ.2.1 vwCl (ztys Γ) s ∧ zb Γ ≤ s.heap.size ∧ Γ.2.2.2.2.WarmedH s.vm ∧ ∀ q : Nat, q < zb Γ → s.heap[q]? = Γ.2.2.2.2.heap[q]?
def zLr (Γ : zC) (ls : Array Slot) (L : zL) : Prop := ls.size = L.length ∧ lv_wf ls ∧ ∀ (i : Nat) (v : zV), zld L i = some v → ls[i]? = some (.val (ztv Γ v))
def zLo (L : zL) : Prop := ∀ (i : Nat) (v : zV), zld L i = some v → zok v
/-- the machine within method μ at pc, with these locals, this stack and memory, comes to the method's end with Q -/
def zGo (Γ : zC) (μ : Nat) (Q : zQ) (pc : Nat) (L : zL) (st : List zV) (M : zM) : Prop := ∀ (p : Program) (e : Env) (s : State) (m : MethodId) (args : Array Value) (below : List Frame) (meth : Method) (c : Code) (H : Heap) (locs : List Loc) (ls : Array Slot), zG Γ → zCx Γ μ p s m args meth c → va_P Γ.2.1 vwCl (zwd Γ M) H → va_S (zA Γ) s.heap H locs → zLr Γ ls L → L.length = (zm μ).2.2.1 → zLo L → (∀ v ∈ st, zok v) →
  W p Γ.1 e (zrm μ) s m args below meth c H locs 0 0 (MQ below (zQc Γ Q) args s 0 0 (zA Γ)) (F0 m pc ls (st.map (ztv Γ)))
/-! the locals -/
theorem zld_lt {v : zV} : ∀ (L : zL) (i : Nat), zld L i = some v → i < L.length
  | [], _, h => by cases h
  | _ :: _, 0, _ => Nat.succ_pos _
  | _ :: L, i + 1, h => Nat.succ_lt_succ (zld_lt L i h)
theorem zset_len (v : zV) : ∀ (L : zL) (i : Nat), (zset L i v).length = L.length
  | [], _ => rfl
  | _ :: _, 0 => rfl
  | _ :: L, 1 => by show (zset L 0 v).length + 1 = _; rw [zset_len v L 0]; rfl
  | _ :: L, j + 2 => by show (zset L (j + 1) v).length + 1 = _; rw [zset_len v L (j + 1)]; rfl
theorem zclr_len : ∀ (L : zL) (i : Nat), (zclr L i).length = L.length
  | [], _ => rfl
  | _ :: _, 0 => rfl
  | _ :: L, i + 1 => by show (zclr L i).length + 1 = _; rw [zclr_len L i]; rfl
theorem zmask_len : ∀ (bs : List Bool) (L : zL), (zmask bs L).length = L.length
  | [], _ => by simp [zmask]
  | true :: bs, [] => by simp [zmask]
  | false :: bs, [] => by simp [zmask]
  | true :: bs, x :: L => by simp [zmask, zmask_len bs L]
  | false :: bs, x :: L => by simp [zmask, zmask_len bs L]
theorem zmask_ld {w : zV} : ∀ (bs : List Bool) (L : zL) (j : Nat), zld (zmask bs L) j = some w → zld L j = some w
  | [], L, j, h => by simpa [zmask] using h
  | true :: bs, [], j, h => by simpa [zmask] using h
  | false :: bs, [], j, h => by simpa [zmask] using h
  | true :: bs, x :: L, 0, h => by simpa [zmask, zld] using h
  | true :: bs, x :: L, j + 1, h => by
    have h' : zld (zmask bs L) j = some w := by simpa [zmask, zld] using h
    exact zmask_ld bs L j h'
  | false :: bs, x :: L, 0, h => by simp [zmask, zld] at h
  | false :: bs, x :: L, j + 1, h => by
    have h' : zld (zmask bs L) j = some w := by simpa [zmask, zld] using h
    exact zmask_ld bs L j h'
theorem zdl_some {x : Option zV} {w : zV} (h : zdl x = some w) : x = some w ∧ ¬ zwd1 w = 2 := by
  unfold zdl at h
  split at h
  next => cases h
  next y hy =>
    refine ⟨h, fun h2 => ?_⟩
    subst h
    cases w with
    | inl a => simp [zwd1] at h2
    | inr b => cases b with
      | inl c => exact hy c rfl
      | inr c => simp [zwd1] at h2
theorem zset_ld {v w : zV} : ∀ (L : zL) (i j : Nat), i < L.length → zld (zset L i v) j = some w → (j = i ∧ w = v) ∨ (j ≠ i ∧ zld L j = some w ∧ ¬ (j + 1 = i ∧ zwd1 w = 2))
  | [], i, _, h, _ => by simp at h
  | x :: L, 0, 0, _, h => Or.inl ⟨rfl, by simpa [zset, zld] using h.symm⟩
  | x :: L, 0, j + 1, _, h => Or.inr ⟨by omega, by simpa [zset, zld] using h, by omega⟩
  | x :: L, 1, 0, _, h => by
    have h' : zdl x = some w := by simpa [zset, zld] using h
    exact Or.inr ⟨by omega, (zdl_some h').1, fun q => (zdl_some h').2 q.2⟩
  | x :: L, 1, j + 1, hl, h => by
    have h' : zld (zset L 0 v) j = some w := by simpa [zset, zld] using h
    rcases zset_ld L 0 j (by simp at hl; omega) h' with ⟨a, b⟩ | ⟨a, b, c⟩
    · exact Or.inl ⟨by omega, b⟩
    · exact Or.inr ⟨by omega, b, by omega⟩
  | x :: L, k + 2, 0, _, h => Or.inr ⟨by omega, by simpa [zset, zld] using h, by omega⟩
  | x :: L, k + 2, j + 1, hl, h => by
    have h' : zld (zset L (k + 1) v) j = some w := by simpa [zset, zld] using h
    rcases zset_ld L (k + 1) j (by simp at hl; omega) h' with ⟨a, b⟩ | ⟨a, b, c⟩
    · exact Or.inl ⟨by omega, b⟩
    · exact Or.inr ⟨by omega, b, fun q => c ⟨by omega, q.2⟩⟩
theorem zclr_ld {w : zV} : ∀ (L : zL) (i j : Nat), zld (zclr L i) j = some w → j ≠ i ∧ zld L j = some w
  | [], _, _, h => by simp [zclr, zld] at h
  | x :: L, 0, 0, h => by simp [zclr, zld] at h
  | x :: L, 0, j + 1, h => ⟨by omega, by simpa [zclr, zld] using h⟩
  | x :: L, i + 1, 0, h => ⟨by omega, by simpa [zclr, zld] using h⟩
  | x :: L, i + 1, j + 1, h => by
    have h' : zld (zclr L i) j = some w := by simpa [zclr, zld] using h
    obtain ⟨a, b⟩ := zclr_ld L i j h'
    exact ⟨by omega, b⟩
theorem ztv_cat (Γ : zC) (v : zV) : (ztv Γ v).category = zwd1 v := by
  cases v with
  | inl a => rfl
  | inr b => cases b with
    | inl c => rfl
    | inr c => cases c <;> rfl
theorem zwds_sum (Γ : zC) : ∀ st : List zV, ((st.map (ztv Γ)).map fun v => v.category).sum = zwds st
  | [] => rfl
  | v :: st => by
    simp only [List.map_cons, List.sum_cons, zwds, ztv_cat]
    rw [zwds_sum Γ st]
/-- the locals as the kit lists them -/
def zla (Γ : zC) (L : zL) : List (Nat × Value) := (List.range L.length).filterMap (fun i => (zld L i).map (fun v => (i, ztv Γ v)))
theorem zla_mem {Γ : zC} {L : zL} {q : Nat × Value} : q ∈ zla Γ L ↔ ∃ v, zld L q.1 = some v ∧ q.2 = ztv Γ v := by
  unfold zla
  rw [List.mem_filterMap]
  constructor
  · rintro ⟨i, -, h⟩
    cases hz : zld L i with
    | none => rw [hz] at h; cases h
    | some v =>
      rw [hz] at h
      cases h
      exact ⟨v, hz, rfl⟩
  · rintro ⟨v, h1, h2⟩
    refine ⟨q.1, List.mem_range.mpr (zld_lt _ _ h1), ?_⟩
    rw [h1, ← show (q.1, q.2) = q from rfl, h2]
    rfl
theorem zLr.has {Γ : zC} {ls : Array Slot} {L : zL} (h : zLr Γ ls L) : lv_has ls L.length (zla Γ L) := ⟨h.1, h.2.1, fun q hq => by
  obtain ⟨v, h1, h2⟩ := zla_mem.mp hq
  rw [h2]
  exact h.2.2 _ _ h1⟩
theorem zLr.set1 {Γ : zC} {ls' : Array Slot} {L : zL} {i : Nat} {v : zV} (hi : i < L.length) (h : lv_has ls' L.length ((i, ztv Γ v) :: (zla Γ L).filter (fun q => !(q.1 == i) && !(q.1 + 1 == i && q.2.category == 2)))) : zLr Γ ls' (zset L i v) := by
  refine ⟨by rw [zset_len]; exact h.1, h.2.1, fun j w hj => ?_⟩
  rcases zset_ld L i j hi hj with ⟨a, b⟩ | ⟨a, b, c⟩
  · subst a; subst b
    exact h.2.2 (j, ztv Γ w) List.mem_cons_self
  · refine h.2.2 (j, ztv Γ w) (List.mem_cons_of_mem _ (List.mem_filter.mpr ⟨zla_mem.mpr ⟨w, b, rfl⟩, ?_⟩))
    simp only [Bool.and_eq_true, Bool.not_eq_true', beq_eq_false_iff_ne, ne_eq, Bool.and_eq_false_iff]
    refine ⟨a, ?_⟩
    by_cases h1 : j + 1 = i
    · exact Or.inr (by rw [ztv_cat]; exact fun h2 => c ⟨h1, h2⟩)
    · exact Or.inl h1
theorem zLr.set2 {Γ : zC} {ls' : Array Slot} {L : zL} {i : Nat} {v : zV} (hi : i < L.length) (h : lv_has ls' L.length ((i, ztv Γ v) :: (zla Γ L).filter (fun q => !(q.1 == i) && (!(q.1 == i + 1) && !(q.1 + 1 == i && q.2.category == 2))))) : zLr Γ ls' (zclr (zset L i v) (i + 1)) := by
  refine ⟨by rw [zclr_len, zset_len]; exact h.1, h.2.1, fun j w hj => ?_⟩
  obtain ⟨hne, hj⟩ := zclr_ld _ _ _ hj
  rcases zset_ld L i j hi hj with ⟨a, b⟩ | ⟨a, b, c⟩
  · subst a; subst b
    exact h.2.2 (j, ztv Γ w) List.mem_cons_self
  · refine h.2.2 (j, ztv Γ w) (List.mem_cons_of_mem _ (List.mem_filter.mpr ⟨zla_mem.mpr ⟨w, b, rfl⟩, ?_⟩))
    simp only [Bool.and_eq_true, Bool.not_eq_true', beq_eq_false_iff_ne, ne_eq, Bool.and_eq_false_iff]
    refine ⟨a, hne, ?_⟩
    by_cases h1 : j + 1 = i
    · exact Or.inr (by rw [ztv_cat]; exact fun h2 => c ⟨h1, h2⟩)
    · exact Or.inl h1
theorem zLo.set {L : zL} {i : Nat} {v : zV} (hL : zLo L) (hi : i < L.length) (hv : zok v) : zLo (zset L i v) := fun j w h => by
  rcases zset_ld L i j hi h with ⟨-, b⟩ | ⟨-, b, -⟩
  · rw [b]; exact hv
  · exact hL j w b
theorem zLo.clr {L : zL} {i : Nat} (hL : zLo L) : zLo (zclr L i) := fun j w h => hL j w (zclr_ld _ _ _ h).2
theorem zok_i (x : Int32) : zok (zi x) := fun p h => by cases h
theorem zok_l (x : Int64) : zok (zl x) := fun p h => by cases h
theorem zok_n : zok zn := fun p h => by cases h
theorem zok_o {p : Nat × Nat × Nat} (h : p ∈ zparts) : zok (.inr (.inr (some p))) := fun q hq => by cases hq; exact h
/-- fewer locals are known -/
theorem zGo_mask {Γ : zC} {μ : Nat} {Q : zQ} {pc : Nat} {L : zL} {st : List zV} {M : zM} (bs : List Bool) (h : zGo Γ μ Q pc (zmask bs L) st M) : zGo Γ μ Q pc L st M := by
  intro p e s m args below meth c H locs ls hG hC hP hS hl hn hLo hst
  refine h p e s m args below meth c H locs ls hG hC hP hS ⟨by rw [zmask_len]; exact hl.1, hl.2.1, fun i v hv => hl.2.2 i v (zmask_ld _ _ _ hv)⟩ (by rw [zmask_len]; exact hn) (fun i v hv => hLo i v (zmask_ld _ _ _ hv)) hst
/-! the world -/
set_option maxRecDepth 100000 in
theorem zparts_nd : zparts.Nodup := by decide +kernel
theorem zwd_at {Γ : zC} {M : zM} {p : Nat × Nat × Nat} (h : p ∈ zparts) : ∃ q0 : Nat, zparts[q0]? = some p ∧ (zwd Γ M)[q0]? = some (Γ.2.2.2.1 p, zent Γ M p) := by
  obtain ⟨q0, h0⟩ := List.getElem?_of_mem h
  exact ⟨q0, h0, by simp [zwd, List.getElem?_map, h0]⟩
theorem zwd_set {Γ : zC} {M M' : zM} {p : Nat × Nat × Nat} {q0 : Nat} {e : va_E} (h0 : zparts[q0]? = some p) (he : zent Γ M' p = e) (h : ∀ q ∈ zparts, q ≠ p → zent Γ M' q = zent Γ M q) : (zwd Γ M).set q0 (Γ.2.2.2.1 p, e) = zwd Γ M' := by
  have hl : q0 < zparts.length := (List.getElem?_eq_some_iff.mp h0).1
  apply List.ext_getElem?
  intro j
  rw [List.getElem?_set]
  by_cases hj : q0 = j
  · subst hj
    have hl2 : q0 < (zwd Γ M).length := by simp [zwd, hl]
    have e2 : (zwd Γ M')[q0]? = some (Γ.2.2.2.1 p, zent Γ M' p) := by simp only [zwd, List.getElem?_map, h0]; rfl
    rw [if_pos rfl, if_pos hl2, e2, he]
  · rw [if_neg hj]
    simp only [zwd, List.getElem?_map]
    cases hq : zparts[j]? with
    | none => rfl
    | some q =>
      have hne : q ≠ p := fun e1 => hj ((List.getElem?_inj hl zparts_nd).mp (by rw [h0, hq, e1]))
      simp only [Option.map_some]
      rw [h q (List.mem_of_getElem? hq) hne]
theorem zwd_D {Γ : zC} {M : zM} (hG : zG Γ) : va_D (zA Γ) (zwd Γ M) := by
  have key : ∀ (k : Nat) (x : Nat × va_E), (zwd Γ M)[k]? = some x → ∃ p, zparts[k]? = some p ∧ x.1 = Γ.2.2.2.1 p := by
    intro k x hx
    simp only [zwd, List.getElem?_map] at hx
    cases hq : zparts[k]? with
    | none => rw [hq] at hx; cases hx
    | some p => rw [hq] at hx; cases hx; exact ⟨p, rfl, rfl⟩
  refine ⟨fun i j x y hi hj hxy => ?_, fun k x hx => ?_⟩
  · obtain ⟨p, h1, h2⟩ := key i x hi
    obtain ⟨q, h3, h4⟩ := key j y hj
    have hpq : p = q := hG.1 p (List.mem_of_getElem? h1) q (List.mem_of_getElem? h3) (by rw [← h2, ← h4, hxy])
    exact (List.getElem?_inj (List.getElem?_eq_some_iff.mp h1).1 zparts_nd).mp (by rw [h1, h3, hpq])
  · obtain ⟨p, h1, h2⟩ := key k x hx
    show zb Γ ≤ x.1
    rw [h2]
    exact hG.2 p (List.mem_of_getElem? h1)
theorem zcl {c : Nat} (h : c < 11) : vwCl[c]? = some (zR c, zT c, zN c) := by
  match c, h with
  | 0, _ => rfl
  | 1, _ => rfl
  | 2, _ => rfl
  | 3, _ => rfl
  | 4, _ => rfl
  | 5, _ => rfl
  | 6, _ => rfl
  | 7, _ => rfl
  | 8, _ => rfl
  | 9, _ => rfl
  | 10, _ => rfl
theorem zinW {c : Nat} (h : c < 11) : ∀ w ∈ u_ws (zR c) (zT c) (zN c), w ∈ WS := by
  match c, h with
  | 0, _ => exact zin0
  | 1, _ => exact zin1
  | 2, _ => exact zin2
  | 3, _ => exact zin3
  | 4, _ => exact zin4
  | 5, _ => exact zin5
  | 6, _ => exact zin6
  | 7, _ => exact zin7
  | 8, _ => exact zin8
  | 9, _ => exact zin9
  | 10, _ => exact zin10
theorem ztyok {c : Nat} (h : c < 11) : ∀ k, k < zN c → parseFieldDescriptor (zT c k).2.2.1 = some (zty c k) := by
  match c, h with
  | 0, _ => exact tyX0_ok
  | 1, _ => exact tyX1_ok
  | 2, _ => exact tyX2_ok
  | 3, _ => exact tyX3_ok
  | 4, _ => exact tyX4_ok
  | 5, _ => exact tyX5_ok
  | 6, _ => exact tyX6_ok
  | 7, _ => exact tyX7_ok
  | 8, _ => exact tyX8_ok
  | 9, _ => exact tyX9_ok
  | 10, _ => exact tyX10_ok
theorem znmok {c : Nat} (h : c < 11) : ∀ a, a < zN c → ∀ b, b < zN c → a ≠ b → (zT c a).2.1 ≠ (zT c b).2.1 := by
  match c, h with
  | 0, _ => exact nmX0
  | 1, _ => exact nmX1
  | 2, _ => exact nmX2
  | 3, _ => exact nmX3
  | 4, _ => exact nmX4
  | 5, _ => exact nmX5
  | 6, _ => exact nmX6
  | 7, _ => exact nmX7
  | 8, _ => exact nmX8
  | 9, _ => exact nmX9
  | 10, _ => exact nmX10
theorem zflok {c : Nat} (h : c < 12) : ∀ e ∈ zflT.getD c [], Cond.fieldLink (zR c) e.1 (zT e.2.1 e.2.2).1 (zT e.2.1 e.2.2).2.1 (zT e.2.1 e.2.2).2.2.1 ∈ WS := by
  match c, h with
  | 0, _ => exact zfl_0
  | 1, _ => exact zfl_1
  | 2, _ => exact zfl_2
  | 3, _ => exact zfl_3
  | 4, _ => exact zfl_4
  | 5, _ => exact zfl_5
  | 6, _ => exact zfl_6
  | 7, _ => exact zfl_7
  | 8, _ => exact zfl_8
  | 9, _ => exact zfl_9
  | 10, _ => exact zfl_10
  | 11, _ => exact zfl_11
theorem zmlok {c : Nat} (h : c < 12) : ∀ e ∈ zmlT.getD c [], Cond.methodLink (zR c) e.1 (zm e.2).2.2.2.2.1 ∈ WS := by
  match c, h with
  | 0, _ => exact zml_0
  | 1, _ => exact zml_1
  | 2, _ => exact zml_2
  | 3, _ => exact zml_3
  | 4, _ => exact zml_4
  | 5, _ => exact zml_5
  | 6, _ => exact zml_6
  | 7, _ => exact zml_7
  | 8, _ => exact zml_8
  | 9, _ => exact zml_9
  | 10, _ => exact zml_10
  | 11, _ => exact zml_11
theorem zslok {c : Nat} (h : c < 12) : ∀ e ∈ zslT.getD c [], Cond.methodLink (zR c) e.1 (zspn e.2) ∈ WS := by
  match c, h with
  | 0, _ => exact zsl_0
  | 1, _ => exact zsl_1
  | 2, _ => exact zsl_2
  | 3, _ => exact zsl_3
  | 4, _ => exact zsl_4
  | 5, _ => exact zsl_5
  | 6, _ => exact zsl_6
  | 7, _ => exact zsl_7
  | 8, _ => exact zsl_8
  | 9, _ => exact zsl_9
  | 10, _ => exact zsl_10
  | 11, _ => exact zsl_11
theorem zciok {c : Nat} (h : c < 12) : ∀ e ∈ zciT.getD c [], Cond.constant (zR c) e.1 (Int32.ofInt e.2) ∈ WS := by
  match c, h with
  | 0, _ => exact zci_0
  | 1, _ => exact zci_1
  | 2, _ => exact zci_2
  | 3, _ => exact zci_3
  | 4, _ => exact zci_4
  | 5, _ => exact zci_5
  | 6, _ => exact zci_6
  | 7, _ => exact zci_7
  | 8, _ => exact zci_8
  | 9, _ => exact zci_9
  | 10, _ => exact zci_10
  | 11, _ => exact zci_11
theorem zcLok {c : Nat} (h : c < 12) : ∀ e ∈ zcLT.getD c [], Cond.constantLong (zR c) e.1 (Int64.ofInt e.2) ∈ WS := by
  match c, h with
  | 0, _ => exact zcL_0
  | 1, _ => exact zcL_1
  | 2, _ => exact zcL_2
  | 3, _ => exact zcL_3
  | 4, _ => exact zcL_4
  | 5, _ => exact zcL_5
  | 6, _ => exact zcL_6
  | 7, _ => exact zcL_7
  | 8, _ => exact zcL_8
  | 9, _ => exact zcL_9
  | 10, _ => exact zcL_10
  | 11, _ => exact zcL_11
set_option maxRecDepth 100000 in
theorem zparts_obj : ∀ p ∈ zparts, zar p.1 p.2.2 = none → p.2.2 = 0 := by decide +kernel
set_option maxRecDepth 100000 in
theorem zparts_cl : ∀ p ∈ zparts, p.1 < 11 := by decide +kernel
set_option maxRecDepth 100000 in
theorem zparts_arr : ∀ p ∈ zparts, p.2.2 = 0 → ∀ k, k < zN p.1 → (zar p.1 (k + 1)).isSome = true → (p.1, p.2.1, k + 1) ∈ zparts := by decide +kernel
set_option maxRecDepth 100000 in
theorem zparts_ob : ∀ p ∈ zparts, ∀ k, k < zN p.1 → (zob p.1 k).all (fun q => decide ((q.1, q.2, 0) ∈ zparts)) = true := by decide +kernel
set_option maxRecDepth 100000 in
theorem zparts_rf : ∀ p ∈ zparts, zar p.1 p.2.2 = some (4, 3) → ∀ j, j < 3 → zrf p.1 p.2.1 j ∈ zparts := by decide +kernel
set_option maxRecDepth 100000 in
theorem zar_4 : ∀ p ∈ zparts, (zar p.1 p.2.2).all (fun q => !(q.1 == 4) || (q.2 == 3 && (p.1 == 8 || p.1 == 9))) = true := by decide +kernel
set_option maxRecDepth 100000 in
theorem zar_len : ∀ p ∈ zparts, (zar p.1 p.2.2).all (fun q => decide (q.2 < 2 ^ 31)) = true := by decide +kernel
theorem zar_0 (c : Nat) : zar c 0 = none := rfl
theorem zms_cl : ∀ μ, μ < znm → (zm μ).1 < 12 := by decide +kernel
/-! memory and entries -/
theorem zent_w {Γ : zC} {M : zM} {c t f i : Nat} {x : Int32} : ∀ q ∈ zparts, q ≠ (c, t, f) → zent Γ (zw M c t f i x) q = zent Γ M q := by
  rintro ⟨c', t', f'⟩ hq hne
  have hn : ∀ f'' i', f'' = f' → ¬ (c' = c ∧ t' = t ∧ f'' = f ∧ i' = i) := by
    rintro f'' i' rfl ⟨rfl, rfl, rfl, -⟩
    exact hne rfl
  unfold zent
  cases hz : zar c' f' with
  | some q =>
    have : (zw M c t f i x).1 c' t' f' = M.1 c' t' f' := by
      funext i'
      show (if _ then _ else _) = _
      rw [if_neg (hn f' i' rfl)]
    simp only [zcont, this]
    rfl
  | none =>
    have hf : f' = 0 := zparts_obj _ hq hz
    have : zfs Γ (zw M c t f i x) c' t' = zfs Γ M c' t' := by
      unfold zfs
      apply List.map_congr_left
      intro k _
      unfold zfv
      have e1 : (zw M c t f i x).1 c' t' 0 k = M.1 c' t' 0 k := by
        show (if _ then _ else _) = _
        rw [if_neg (hn 0 k hf.symm)]
      have e2 : (zw M c t f i x).2 = M.2 := rfl
      simp only [e1, e2]
    simp only [this]
theorem zent_wl {Γ : zC} {M : zM} {c t f i : Nat} {x : Int64} : ∀ q ∈ zparts, q ≠ (c, t, f) → zent Γ (zwl M c t f i x) q = zent Γ M q := by
  rintro ⟨c', t', f'⟩ hq hne
  have hn : ∀ f'' i', f'' = f' → ¬ (c' = c ∧ t' = t ∧ f'' = f ∧ i' = i) := by
    rintro f'' i' rfl ⟨rfl, rfl, rfl, -⟩
    exact hne rfl
  unfold zent
  cases hz : zar c' f' with
  | some q =>
    have : (zwl M c t f i x).2 c' t' f' = M.2 c' t' f' := by
      funext i'
      show (if _ then _ else _) = _
      rw [if_neg (hn f' i' rfl)]
    simp only [zcont, this]
    rfl
  | none =>
    have hf : f' = 0 := zparts_obj _ hq hz
    have : zfs Γ (zwl M c t f i x) c' t' = zfs Γ M c' t' := by
      unfold zfs
      apply List.map_congr_left
      intro k _
      unfold zfv
      have e1 : (zwl M c t f i x).2 c' t' 0 k = M.2 c' t' 0 k := by
        show (if _ then _ else _) = _
        rw [if_neg (hn 0 k hf.symm)]
      have e2 : (zwl M c t f i x).1 = M.1 := rfl
      simp only [e1, e2]
    simp only [this]
theorem zent_cp {Γ : zC} {M : zM} {c0 t0 f0 c t f sp dp n : Nat} : f ≠ 0 → ∀ q ∈ zparts, q ≠ (c, t, f) → zent Γ (zcp M c0 t0 f0 c t f sp dp n) q = zent Γ M q := by
  rintro hf0 ⟨c', t', f'⟩ hq hne
  have hn : ∀ f'', f'' = f' → ¬ (c' = c ∧ t' = t ∧ f'' = f) := by
    rintro f'' rfl ⟨rfl, rfl, rfl⟩
    exact hne rfl
  unfold zent
  cases hz : zar c' f' with
  | some q =>
    have : (zcp M c0 t0 f0 c t f sp dp n).1 c' t' f' = M.1 c' t' f' := by
      funext i'
      show (if _ then _ else _) = _
      rw [if_neg (hn f' rfl)]
    simp only [zcont, this]
    rfl
  | none =>
    have hf : f' = 0 := zparts_obj _ hq hz
    have : zfs Γ (zcp M c0 t0 f0 c t f sp dp n) c' t' = zfs Γ M c' t' := by
      unfold zfs
      apply List.map_congr_left
      intro k _
      unfold zfv
      have e1 : (zcp M c0 t0 f0 c t f sp dp n).1 c' t' 0 k = M.1 c' t' 0 k := by
        show (if _ then _ else _) = _
        rw [if_neg (hn 0 hf.symm)]
      have e2 : (zcp M c0 t0 f0 c t f sp dp n).2 = M.2 := rfl
      simp only [e1, e2]
    simp only [this]
theorem zw_arr (M : zM) (c t f i : Nat) (x : Int32) : (zw M c t f i x).1 c t f = upd (M.1 c t f) i x := by
  funext j
  show (if _ then _ else _) = upd _ _ _ _
  unfold upd
  simp
theorem zwl_arr (M : zM) (c t f i : Nat) (x : Int64) : (zwl M c t f i x).2 c t f = vp_updL (M.2 c t f) i x := by
  funext j
  show (if _ then _ else _) = vp_updL _ _ _ _
  unfold vp_updL
  simp
theorem zcp_arr (M : zM) (c0 t0 f0 c t f sp dp n : Nat) : (zcp M c0 t0 f0 c t f sp dp n).1 c t f = va_cpy (M.1 c0 t0 f0) (M.1 c t f) sp dp n := by
  funext j
  show (if _ then _ else _) = _
  simp
theorem zfs_at {Γ : zC} {M : zM} {c t k : Nat} (h : k < zN c) : (zfs Γ M c t)[k]? = some (ztv Γ (zfv c t k M)) := by
  simp [zfs, List.getElem?_map, List.getElem?_range h]
theorem zfs_set {Γ : zC} {M M' : zM} {c t k : Nat} (hk : k < zN c) {v : zV} (h1 : zfv c t k M' = v) (h2 : ∀ j, j ≠ k → zfv c t j M' = zfv c t j M) : (zfs Γ M c t).set k (ztv Γ v) = zfs Γ M' c t := by
  apply List.ext_getElem?
  intro j
  rw [List.getElem?_set]
  by_cases hj : k = j
  · subst hj
    have hl : k < (zfs Γ M c t).length := by simp [zfs, hk]
    rw [if_pos rfl, if_pos hl, zfs_at hk, h1]
  · rw [if_neg hj]
    by_cases hj2 : j < zN c
    · rw [zfs_at hj2, zfs_at hj2, h2 j (Ne.symm hj)]
    · have e1 : (zfs Γ M c t).length ≤ j := by simp [zfs]; omega
      have e2 : (zfs Γ M' c t).length ≤ j := by simp [zfs]; omega
      rw [List.getElem?_eq_none e1, List.getElem?_eq_none e2]
theorem zfv_ok {c t k : Nat} {M : zM} (h : (c, t, 0) ∈ zparts) (hk : k < zN c) : zok (zfv c t k M) := by
  unfold zfv
  cases h1 : zar c (k + 1) with
  | some q => exact zok_o (zparts_arr _ h rfl k hk (by show (zar c (k + 1)).isSome = true; rw [h1]; rfl))
  | none =>
    cases h2 : zob c k with
    | some q =>
      have h3 := zparts_ob _ h k hk
      rw [show zob (c, t, 0).1 k = some q from h2] at h3
      exact zok_o (of_decide_eq_true h3)
    | none =>
      dsimp only
      cases zlg c k with
      | true => exact zok_l _
      | false => exact zok_i _
