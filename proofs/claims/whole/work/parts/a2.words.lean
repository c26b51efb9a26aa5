/-! the class's words: wordOf and spells -/
def zSr (Γ : zC) : Prop := ∃ (q v : Nat) (fm : Value), vk_R "RoadBoards$Reader" 85 wTx q Γ.2.2.2.2 ∧ sP (zA Γ) q v fm Γ.2.2.2.2 Γ.2.2.2.2.heap
section Za2
variable {Γ : zC} {Q : zQ} {M : zM} {L : zL} {st : List zV}
theorem zsr_at {p : Program} {s : State} {m : MethodId} {args : Array Value} {meth : Method} {c : Code} {μ : Nat} (hsr : zSr Γ) (hX : zCx Γ μ p s m args meth c) : ∃ (q v : Nat) (fm : Value), vk_R "RoadBoards$Reader" 85 wTx q s ∧ sP (zA Γ) q v fm s s.heap := by
  obtain ⟨q, v, fm, hR, hI⟩ := hsr
  have hW := hX.2.2.2.2.2.2.2.2.2.1
  have hq := hX.2.2.2.2.2.2.2.2.2.2
  exact ⟨q, v, fm, hR.warm hW, (hI.moved hW.alike).kept (fun a ha _ => hq a ha)⟩
theorem zok_ci {x : Int32} {st : List zV} (hok : ∀ v ∈ st, zok v) : ∀ v ∈ zi x :: st, zok v := fun v hv => by
  rcases List.mem_cons.mp hv with e | e
  · subst e
    exact zok_i x
  · exact hok v e
theorem sp_68_11 (hsr : zSr Γ) (hw : zwds st ≤ 8) (h : zGo Γ 68 Q 16 L (zi 78 :: st) M) : zGo Γ 68 Q 11 L st M := by
  intro p e s m args below meth c H locs ls hG hX hP hS hL hl hLo hok
  obtain ⟨q, v, fm, hR, hI⟩ := zsr_at hsr hX
  have k := h p e s m args below meth c H locs ls hG hX hP hS hL hl hLo (zok_ci hok)
  refine va_ldcS hX.1 hX.2.1 hX.2.2.2.1 hR (by decide +kernel : decode (zm 68).2.1 11 = .ok (.ldc 85, 2)) ?_
  exact s_runV (own := "RoadBoards$Reader") (index := 87) (n := 0) (y := yS_length) (As := []) (rest := st.map (ztv Γ)) (o := some (.int 78)) hX.1 hX.2.1 (hX.2.2.1.trans (hL.1.trans hl).symm) hX.2.2.2.1 hX.2.2.2.2.1 (m_length Γ.1) hI hS rfl (zi2 221 (by decide +kernel) (by decide +kernel)) (zi2 218 (by decide +kernel) (by decide +kernel)) (zi1 12 (by decide +kernel) (by decide +kernel)) (zi2 219 (by decide +kernel) (by decide +kernel)) (zi2 220 (by decide +kernel) (by decide +kernel)) ⟨by decide, by decide, by decide +kernel⟩ ⟨by decide +kernel, by decide +kernel⟩ rfl rfl rfl rfl (by rw [zwds_sum]; exact hw) (by decide +kernel : decode (zm 68).2.1 13 = .ok (.invokevirtual 87, 3)) ⟨Nat.le_refl _, Nat.le_refl _⟩ k
theorem sp_68_19 {k : Nat} (hsr : zSr Γ) (hk : k < 78) (hx : zld L 5 = some (zi (iz (k : Int)))) (hw : zwds st ≤ 8) (h : zGo Γ 68 Q 26 L (zi (wCh k) :: st) M) : zGo Γ 68 Q 19 L st M := by
  intro p e s m args below meth c H locs ls hG hX hP hS hL hl hLo hok
  obtain ⟨q, v, fm, hR, hI⟩ := zsr_at hsr hX
  have k0 := h p e s m args below meth c H locs ls hG hX hP hS hL hl hLo (zok_ci hok)
  refine va_ldcS hX.1 hX.2.1 hX.2.2.2.1 hR (by decide +kernel : decode (zm 68).2.1 19 = .ok (.ldc 85, 2)) ?_
  refine lv_iload hX.1 hX.2.1 (by decide +kernel : decode (zm 68).2.1 21 = .ok (.iload 5, 2)) (hL.2.2 5 _ hx) ?_
  exact s_runV (own := "RoadBoards$Reader") (index := 92) (n := 1) (y := yS_charAt) (As := [.int (iz (k : Int))]) (rest := st.map (ztv Γ)) (o := some (.int (wCh k))) hX.1 hX.2.1 (hX.2.2.1.trans (hL.1.trans hl).symm) hX.2.2.2.1 hX.2.2.2.2.1 (m_charAt Γ.1 hk) hI hS rfl (zi2 231 (by decide +kernel) (by decide +kernel)) (zi2 228 (by decide +kernel) (by decide +kernel)) (zi1 12 (by decide +kernel) (by decide +kernel)) (zi2 229 (by decide +kernel) (by decide +kernel)) (zi2 230 (by decide +kernel) (by decide +kernel)) ⟨by decide, by decide, by decide +kernel⟩ ⟨by decide +kernel, by decide +kernel⟩ rfl rfl rfl rfl (by rw [zwds_sum]; exact hw) (by decide +kernel : decode (zm 68).2.1 23 = .ok (.invokevirtual 92, 3)) ⟨Nat.le_refl _, Nat.le_refl _⟩ k0
theorem sp_69_20 {k : Nat} (hsr : zSr Γ) (hk : k < 78) (hx : zld L 4 = some (zi (iz (k : Int)))) (hw : zwds st ≤ 8) (h : zGo Γ 69 Q 27 L (zi (wCh k) :: st) M) : zGo Γ 69 Q 20 L st M := by
  intro p e s m args below meth c H locs ls hG hX hP hS hL hl hLo hok
  obtain ⟨q, v, fm, hR, hI⟩ := zsr_at hsr hX
  have k0 := h p e s m args below meth c H locs ls hG hX hP hS hL hl hLo (zok_ci hok)
  refine va_ldcS hX.1 hX.2.1 hX.2.2.2.1 hR (by decide +kernel : decode (zm 69).2.1 20 = .ok (.ldc 85, 2)) ?_
  refine lv_iload hX.1 hX.2.1 (by decide +kernel : decode (zm 69).2.1 22 = .ok (.iload 4, 2)) (hL.2.2 4 _ hx) ?_
  exact s_runV (own := "RoadBoards$Reader") (index := 92) (n := 1) (y := yS_charAt) (As := [.int (iz (k : Int))]) (rest := st.map (ztv Γ)) (o := some (.int (wCh k))) hX.1 hX.2.1 (hX.2.2.1.trans (hL.1.trans hl).symm) hX.2.2.2.1 hX.2.2.2.2.1 (m_charAt Γ.1 hk) hI hS rfl (zi2 231 (by decide +kernel) (by decide +kernel)) (zi2 228 (by decide +kernel) (by decide +kernel)) (zi1 12 (by decide +kernel) (by decide +kernel)) (zi2 229 (by decide +kernel) (by decide +kernel)) (zi2 230 (by decide +kernel) (by decide +kernel)) ⟨by decide, by decide, by decide +kernel⟩ ⟨by decide +kernel, by decide +kernel⟩ rfl rfl rfl rfl (by rw [zwds_sum]; exact hw) (by decide +kernel : decode (zm 69).2.1 24 = .ok (.invokevirtual 92, 3)) ⟨Nat.le_refl _, Nat.le_refl _⟩ k0
end Za2
theorem bk_68_0 {Γ : zC} {Q : zQ} {M : zM} {t0 : Nat} {x1 : Int32} {x2 : Int32} (h : zGo Γ 68 Q 9 [some (zo 8 t0 0), some (zi x1), some (zi x2), some (zi (11 : Int32)), some (zi (0 : Int32)), some (zi (0 : Int32))] [] (M)) : zGo Γ 68 Q 0 [some (zo 8 t0 0), some (zi x1), some (zi x2), none, none, none] [] M := zgo 41 [(9, [true, true, true, true, true, true]), (11, [true, true, true, true, true, true]), (19, [true, true, true, true, true, true])] rfl (tb := ztb68) rfl h
theorem bk_68_9 {Γ : zC} {Q : zQ} {M : zM} {t0 : Nat} {x1 : Int32} {x2 : Int32} {x3 : Int32} {x4 : Int32} {x5 : Int32} (h : zGo Γ 68 Q 11 [some (zo 8 t0 0), some (zi x1), some (zi x2), some (zi x3), some (zi x4), some (zi x5)] [zi x5] (M)) : zGo Γ 68 Q 9 [some (zo 8 t0 0), some (zi x1), some (zi x2), some (zi x3), some (zi x4), some (zi x5)] [] M := zgo 41 [(9, [true, true, true, true, true, true]), (11, [true, true, true, true, true, true]), (19, [true, true, true, true, true, true])] rfl (tb := ztb68) rfl h
theorem bk_68_16 {Γ : zC} {Q : zQ} {M : zM} {t0 : Nat} {x1 : Int32} {x2 : Int32} {x3 : Int32} {x4 : Int32} {x5 : Int32} {sx0 : Int32} {sx1 : Int32} (h : ((sx0 ≤ sx1 → Q (some (zi (3 : Int32))) (M)) ∧ (¬ sx0 ≤ sx1 → zGo Γ 68 Q 19 [some (zo 8 t0 0), some (zi x1), some (zi x2), some (zi x3), some (zi x4), some (zi x5)] [] (M)))) : zGo Γ 68 Q 16 [some (zo 8 t0 0), some (zi x1), some (zi x2), some (zi x3), some (zi x4), some (zi x5)] [zi sx0, zi sx1] M := zgo 41 [(9, [true, true, true, true, true, true]), (11, [true, true, true, true, true, true]), (19, [true, true, true, true, true, true])] rfl (tb := ztb68) rfl h
theorem bk_68_26 {Γ : zC} {Q : zQ} {M : zM} {t0 : Nat} {x1 : Int32} {x2 : Int32} {x3 : Int32} {x4 : Int32} {x5 : Int32} {sx0 : Int32} (h : ((¬ sx0 = (32 : Int32) → zGo Γ 68 Q 9 [some (zo 8 t0 0), some (zi x1), some (zi x2), some (zi x3), some (zi x4), some (zi (x5 + (1 : Int32)))] [] (M)) ∧ (sx0 = (32 : Int32) → ((¬ (x5 - x4) = (x2 - x1) → zGo Γ 68 Q 9 [some (zo 8 t0 0), some (zi x1), some (zi x2), some (zi (x3 + (1 : Int32))), some (zi (x5 + (1 : Int32))), some (zi (x5 + (1 : Int32)))] [] (M)) ∧ ((x5 - x4) = (x2 - x1) → (zEv Γ 69 [zo 8 t0 0, zi x1, zi x4, zi x5] (M) (fun o M1 => ∃ r1, o = some (zi r1) ∧ ((r1 = 0 → zGo Γ 68 Q 9 [some (zo 8 t0 0), some (zi x1), some (zi x2), some (zi (x3 + (1 : Int32))), some (zi (x5 + (1 : Int32))), some (zi (x5 + (1 : Int32)))] [] (M1)) ∧ (¬ r1 = 0 → Q (some (zi x3)) (M1)))))))))) : zGo Γ 68 Q 26 [some (zo 8 t0 0), some (zi x1), some (zi x2), some (zi x3), some (zi x4), some (zi x5)] [zi sx0] M := zgo 41 [(9, [true, true, true, true, true, true]), (11, [true, true, true, true, true, true]), (19, [true, true, true, true, true, true])] rfl (tb := ztb68) rfl h
theorem en_68 {Γ : zC} {Q : zQ} {M : zM} {t0 : Nat} {x1 : Int32} {x2 : Int32} (h : zGo Γ 68 Q 0 [some (zo 8 t0 0), some (zi x1), some (zi x2), none, none, none] [] M) : zEv Γ 68 [zo 8 t0 0, zi x1, zi x2] M Q := zev_in rfl rfl h
theorem bk_69_0 {Γ : zC} {Q : zQ} {M : zM} {t0 : Nat} {x1 : Int32} {x2 : Int32} {x3 : Int32} (h : zGo Γ 69 Q 3 [some (zo 8 t0 0), some (zi x1), some (zi x2), some (zi x3), some (zi x2)] [] (M)) : zGo Γ 69 Q 0 [some (zo 8 t0 0), some (zi x1), some (zi x2), some (zi x3), none] [] M := zgo 25 [(3, [true, true, true, true, true]), (20, [true, true, true, true, true])] rfl (tb := ztb69) rfl h
theorem bk_69_3 {Γ : zC} {Q : zQ} {M : zM} {t0 : Nat} {x1 : Int32} {x2 : Int32} {x3 : Int32} {x4 : Int32} (h : ((x3 ≤ x4 → (zbl (1 : Int32) ∧ Q (some (zi (1 : Int32))) (M))) ∧ (¬ x3 ≤ x4 → (vp_in ((x1 + x4) - x2) 500 ∧ zGo Γ 69 Q 20 [some (zo 8 t0 0), some (zi x1), some (zi x2), some (zi x3), some (zi x4)] [zi ((M).1 8 t0 1 (((x1 + x4) - x2)).toNatClampNeg)] (M))))) : zGo Γ 69 Q 3 [some (zo 8 t0 0), some (zi x1), some (zi x2), some (zi x3), some (zi x4)] [] M := zgo 25 [(3, [true, true, true, true, true]), (20, [true, true, true, true, true])] rfl (tb := ztb69) rfl h
theorem bk_69_27 {Γ : zC} {Q : zQ} {M : zM} {t0 : Nat} {x1 : Int32} {x2 : Int32} {x3 : Int32} {x4 : Int32} {sx0 : Int32} {sx1 : Int32} (h : ((sx1 = sx0 → zGo Γ 69 Q 3 [some (zo 8 t0 0), some (zi x1), some (zi x2), some (zi x3), some (zi (x4 + (1 : Int32)))] [] (M)) ∧ (¬ sx1 = sx0 → (zbl (0 : Int32) ∧ Q (some (zi (0 : Int32))) (M))))) : zGo Γ 69 Q 27 [some (zo 8 t0 0), some (zi x1), some (zi x2), some (zi x3), some (zi x4)] [zi sx0, zi sx1] M := zgo 25 [(3, [true, true, true, true, true]), (20, [true, true, true, true, true])] rfl (tb := ztb69) rfl h
theorem en_69 {Γ : zC} {Q : zQ} {M : zM} {t0 : Nat} {x1 : Int32} {x2 : Int32} {x3 : Int32} (h : zGo Γ 69 Q 0 [some (zo 8 t0 0), some (zi x1), some (zi x2), some (zi x3), none] [] M) : zEv Γ 69 [zo 8 t0 0, zi x1, zi x2, zi x3] M Q := zev_in rfl rfl h
def cTp (M : zM) (tp : Nat → Int) (n : Nat) : Prop := M.1 8 0 0 1 = iz (n : Int) ∧ n ≤ 500 ∧ ∀ p, p < n → M.1 8 0 1 p = iz (sb (tp p)) ∧ 0 ≤ tp p ∧ tp p ≤ 255
theorem sb_rg {c : Int} (h : 0 ≤ c ∧ c ≤ 255) : -128 ≤ sb c ∧ sb c ≤ 127 := by
  unfold sb
  split <;> omega
theorem WB_b : ∀ k, k < 78 → WB.getD k 0 < 256 := by decide
def wOf (i : Nat) : Nat := [0, 6, 13, 18, 24, 30, 35, 42, 46, 50, 54, 58, 63, 68, 73, 78].getD i 0
theorem wOf_t : ∀ i, i < 15 → wOf i + (WT.getD i []).length + 1 = wOf (i + 1) ∧ WB.getD (wOf i + (WT.getD i []).length) 0 = 32 ∧ wOf (i + 1) ≤ 78 ∧ (∀ j, j < (WT.getD i []).length → WB.getD (wOf i + j) 0 = (WT.getD i []).getD j 0 + 96 ∧ WB.getD (wOf i + j) 0 ≠ 32) ∧ WT.drop i = WT.getD i [] :: WT.drop (i + 1) := by decide
theorem wl_get {tp : Nat → Int} {w : Nat} : ∀ (m j : Nat), j < m → (wl tp w m)[j]? = some (tp (w + j) - 96).toNat
  | 0, j, h => by omega
  | m + 1, j, h => by
    rw [wl]
    by_cases e : j < m
    · rw [List.getElem?_append_left (by rw [wl_len]; exact e)]
      exact wl_get m j e
    · have e2 : j = m := by omega
      subst e2
      rw [List.getElem?_append_right (by rw [wl_len]; omega), wl_len, Nat.sub_self]
      rfl
theorem wl_getD {tp : Nat → Int} {w : Nat} (m j : Nat) (h : j < m) : (wl tp w m).getD j 0 = (tp (w + j) - 96).toNat := by
  rw [List.getD_eq_getElem?_getD, wl_get m j h]
  rfl
theorem wl_eq {tp : Nat → Int} {w m : Nat} {x : List Nat} (hx : x.length = m) (h : ∀ j, j < m → x.getD j 0 = (tp (w + j) - 96).toNat) : wl tp w m = x := by
  apply List.ext_getElem?
  intro i
  by_cases hi : i < m
  · have e2 := h i hi
    rw [List.getD_eq_getElem?_getD, List.getElem?_eq_getElem (by omega)] at e2
    rw [wl_get m i hi, List.getElem?_eq_getElem (by omega), ← e2]
    rfl
  · rw [List.getElem?_eq_none (by rw [wl_len]; omega), List.getElem?_eq_none (by omega)]
section Za2b
variable {Γ : zC} {Q : zQ} {M : zM} {tp : Nat → Int} {n : Nat}
theorem c_spells {p0 f0 b0 : Nat} (hsr : zSr Γ) (hT : cTp M tp n) (hb : f0 ≤ b0 ∧ b0 ≤ 78) (hp : p0 + (b0 - f0) ≤ n) (ht : (∀ j, f0 + j < b0 → sb (tp (p0 + j)) = ((WB.getD (f0 + j) 0 : Nat) : Int)) → Q (some (zi 1)) M) (hf : ¬ (∀ j, f0 + j < b0 → sb (tp (p0 + j)) = ((WB.getD (f0 + j) 0 : Nat) : Int)) → Q (some (zi 0)) M) : zEv Γ 69 [zo 8 0 0, zi (iz (p0 : Int)), zi (iz (f0 : Int)), zi (iz (b0 : Int))] M Q := by
  have hn := hT.2.1
  refine en_69 (bk_69_0 ?_)
  refine zloop (P := fun k M2 => M2 = M ∧ f0 ≤ k ∧ ∀ j, f0 + j < k → sb (tp (p0 + j)) = ((WB.getD (f0 + j) 0 : Nat) : Int)) (G := fun k M2 => zGo Γ 69 Q 3 [some (zo 8 0 0), some (zi (iz (p0 : Int))), some (zi (iz (f0 : Int))), some (zi (iz (b0 : Int))), some (zi (iz (k : Int)))] [] M2) (n := b0) ?_ ?_ (b0 - f0) f0 M (by omega) ⟨rfl, by omega, fun j hj => by omega⟩
  · rintro M2 ⟨rfl, _, h3⟩
    refine bk_69_3 ⟨fun _ => ⟨Or.inr rfl, ht h3⟩, fun q => ?_⟩
    rw [iz_le (by omega) (by omega) (by omega) (by omega)] at q
    omega
  · rintro k M2 hk ⟨rfl, h2, h3⟩ ih
    refine bk_69_3 ⟨fun q => ?_, fun _ => ?_⟩
    · rw [iz_le (by omega) (by omega) (by omega) (by omega)] at q
      omega
    · obtain ⟨j, rfl⟩ := Nat.le.dest h2
      have hj := hT.2.2 (p0 + j) (by omega)
      rw [iz_add, iz_sub, show (p0 : Int) + ((f0 + j : Nat) : Int) - (f0 : Int) = ((p0 + j : Nat) : Int) by omega, iz_clN (by omega), hj.1]
      refine ⟨iz_inN (by omega) (by omega), sp_69_20 hsr (k := f0 + j) (by omega) rfl (by show 1 ≤ 8; decide) (bk_69_27 ?_)⟩
      have s1 := sb_rg hj.2
      have s2 := WB_b (f0 + j) (by omega)
      unfold wCh
      rw [iz_eq (by omega) (by omega) (by omega) (by omega), iz_s]
      refine ⟨fun q => ih M2 ⟨rfl, by omega, fun i hi => ?_⟩, fun q => ⟨Or.inl rfl, hf (fun z => q (z j (by omega)))⟩⟩
      by_cases e : i = j
      · rw [e]
        exact q
      · exact h3 i (by omega)
theorem c_wordOf {p0 to : Nat} (hsr : zSr Γ) (hT : cTp M tp n) (hp : p0 ≤ to ∧ to ≤ n) (hl : ∀ i, p0 ≤ i → i < to → 97 ≤ tp i ∧ tp i ≤ 122) (h : Q (some (zi (iz ((wcode (wl tp p0 (to - p0)) : Nat) : Int)))) M) : zEv Γ 68 [zo 8 0 0, zi (iz (p0 : Int)), zi (iz (to : Int))] M Q := by
  have hn := hT.2.1
  have main : ∀ (d i : Nat), i + d = 15 → Q (some (zi (iz ((wcF (wl tp p0 (to - p0)) (WT.drop i) (11 + i) : Nat) : Int)))) M → zGo Γ 68 Q 9 [some (zo 8 0 0), some (zi (iz (p0 : Int))), some (zi (iz (to : Int))), some (zi (iz ((11 + i : Nat) : Int))), some (zi (iz ((wOf i : Nat) : Int))), some (zi (iz ((wOf i : Nat) : Int)))] [] M := by
    intro d
    induction d with
    | zero =>
      intro i hi hq
      have e : i = 15 := by omega
      subst e
      refine bk_68_9 (sp_68_11 hsr (by show 1 ≤ 8; decide) (bk_68_16 ⟨fun _ => hq, fun q => ?_⟩))
      exact absurd (by decide) q
    | succ d ih =>
      intro i hi hq
      obtain ⟨t1, t2, t3, t4, t5⟩ := wOf_t i (by omega)
      rw [t5, wcF] at hq
      refine zloop (P := fun k M2 => M2 = M ∧ wOf i ≤ k) (G := fun k M2 => zGo Γ 68 Q 9 [some (zo 8 0 0), some (zi (iz (p0 : Int))), some (zi (iz (to : Int))), some (zi (iz ((11 + i : Nat) : Int))), some (zi (iz ((wOf i : Nat) : Int))), some (zi (iz (k : Int)))] [] M2) (n := wOf i + (WT.getD i []).length) ?_ ?_ (WT.getD i []).length (wOf i) M rfl ⟨rfl, Nat.le_refl _⟩
      · rintro M2 ⟨rfl, _⟩
        refine bk_68_9 (sp_68_11 hsr (by show 1 ≤ 8; decide) (bk_68_16 ⟨fun q => ?_, fun _ => ?_⟩))
        · rw [show (78 : Int32) = iz 78 from rfl, iz_le (by omega) (by omega) (by omega) (by omega)] at q
          omega
        refine sp_68_19 hsr (k := wOf i + (WT.getD i []).length) (by omega) rfl (by show 0 ≤ 8; decide) (bk_68_26 ⟨fun q => ?_, fun _ => ?_⟩)
        · refine absurd ?_ q
          unfold wCh
          rw [t2]
          rfl
        rw [iz_sub, iz_sub, iz_eq (by omega) (by omega) (by omega) (by omega), iz_s, iz_s, show 11 + i + 1 = 11 + (i + 1) by omega, t1]
        have go : ¬ wl tp p0 (to - p0) = WT.getD i [] → zGo Γ 68 Q 9 [some (zo 8 0 0), some (zi (iz (p0 : Int))), some (zi (iz (to : Int))), some (zi (iz ((11 + (i + 1) : Nat) : Int))), some (zi (iz ((wOf (i + 1) : Nat) : Int))), some (zi (iz ((wOf (i + 1) : Nat) : Int)))] [] M2 := fun z => by
          rw [if_neg z] at hq
          exact ih (i + 1) (by omega) hq
        refine ⟨fun q => go (fun z => ?_), fun q => ?_⟩
        · have := congrArg List.length z
          rw [wl_len] at this
          omega
        · have el : to - p0 = (WT.getD i []).length := by omega
          refine c_spells hsr hT (by omega) (by omega) (fun z => ⟨_, rfl, fun y => absurd y (by decide), fun _ => ?_⟩) (fun z => ⟨_, rfl, fun _ => go (fun y => z (fun j hj => ?_)), fun y => absurd rfl y⟩)
          · have ew : wl tp p0 (to - p0) = WT.getD i [] := wl_eq el.symm (fun j hj => by
              have a1 := z j (by omega)
              have a2 := (t4 j (by omega)).1
              have a3 := hl (p0 + j) (by omega) (by omega)
              unfold sb at a1
              rw [if_pos (by omega)] at a1
              omega)
            rw [if_pos ew] at hq
            exact hq
          · have a2 := (t4 j (by omega)).1
            have a3 := hl (p0 + j) (by omega) (by omega)
            have a4 := wl_getD (tp := tp) (w := p0) (to - p0) j (by omega)
            rw [y] at a4
            unfold sb
            rw [if_pos (by omega)]
            omega
      · rintro k M2 hk ⟨rfl, h2⟩ ih2
        obtain ⟨j, rfl⟩ := Nat.le.dest h2
        refine bk_68_9 (sp_68_11 hsr (by show 1 ≤ 8; decide) (bk_68_16 ⟨fun q => ?_, fun _ => ?_⟩))
        · rw [show (78 : Int32) = iz 78 from rfl, iz_le (by omega) (by omega) (by omega) (by omega)] at q
          omega
        refine sp_68_19 hsr (k := wOf i + j) (by omega) rfl (by show 0 ≤ 8; decide) (bk_68_26 ⟨fun _ => ?_, fun q => ?_⟩)
        · rw [iz_s]
          exact ih2 M2 ⟨rfl, by omega⟩
        · have a2 := (t4 j (by omega)).2
          have a3 := WB_b (wOf i + j) (by omega)
          unfold wCh at q
          rw [show (32 : Int32) = iz 32 from rfl, iz_eq (by omega) (by omega) (by omega) (by omega)] at q
          omega
  exact en_68 (bk_68_0 (main 15 0 (by omega) h))
end Za2b
