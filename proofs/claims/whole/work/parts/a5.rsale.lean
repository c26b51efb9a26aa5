/-! the reference's sale -/
def oRs (c t f i : Nat) : Prop := c = 10 ∧ t = 0 ∧ (f = 0 ∧ 2 ≤ i ∧ i ≤ 11 ∨ f = 11 ∨ f = 1 ∧ (i = 1 ∨ i = 2 ∨ i = 3))
def oRsw (s c t f i : Nat) : Prop := c = 10 ∧ t = 0 ∧ (f = 0 ∧ 2 ≤ i ∧ i ≤ 11 ∨ f = 11 ∨ f = 1 ∧ (i = 0 ∨ i = 1 ∨ i = 2 ∨ i = 3 ∨ (510 + 260 * s ≤ i ∧ i < 510 + 260 * s + 240)))
theorem oRs_w {s c t f i : Nat} (h : oRs c t f i) : oRsw s c t f i := by
  unfold oRs at h
  unfold oRsw
  omega
section Za5
variable {Γ : zC} {Q : zQ} {M : zM} {tp : Nat → Int} {n : Nat}
/-- the copy at the end -/
theorem r_copy {s : Nat} {R : SB} {P : Nat → Nat → Nat → Nat → Prop} {M0 : zM} (hs : s < 3) (hP : ∀ i, 510 + 260 * s ≤ i → i < 510 + 260 * s + 240 → P 10 0 1 i) (ho : Off P M0 M) (hr : rRd M R) (h : ∀ M', Off P M0 M' → Off (fun c t f i => c = 10 ∧ t = 0 ∧ f = 1 ∧ 510 + 260 * s ≤ i ∧ i < 510 + 260 * s + 240) M M' → rH M' (510 + 260 * s) R → Q (some (zi (iz (s : Int)))) M') : zGo Γ 175 Q 253 [some (zo 10 0 0), none, some (zi (iz (s : Int))), some (zi (iz ((0 : Nat) : Int)))] [] M := by
  refine zloop (P := fun k M2 => Off P M0 M2 ∧ Off (fun c t f i => c = 10 ∧ t = 0 ∧ f = 1 ∧ 510 + 260 * s ≤ i ∧ i < 510 + 260 * s + 240) M M2 ∧ ∀ j, j < k → M2.1 10 0 1 (510 + 260 * s + j) = iz (R j)) (G := fun k M2 => zGo Γ 175 Q 253 [some (zo 10 0 0), none, some (zi (iz (s : Int))), some (zi (iz (k : Int)))] [] M2) (n := 240) ?_ ?_ 240 0 M (by omega) ⟨ho, Off.rf M, fun j hj => by omega⟩
  · rintro M2 ⟨o2, o2', c2⟩
    refine bk_175_253 ⟨fun _ => h M2 o2 o2' c2, fun q => ?_⟩
    rw [show (240 : Int32) = iz 240 from rfl, iz_le (by omega) (by omega) (by omega) (by omega)] at q
    omega
  · rintro k M2 hk ⟨o2, o2', c2⟩ ih
    refine bk_175_253 ⟨fun q => ?_, fun _ => ?_⟩
    · rw [show (240 : Int32) = iz 240 from rfl, iz_le (by omega) (by omega) (by omega) (by omega)] at q
      omega
    · have er : M2.1 10 0 11 k = iz (R k) := (o2'.1 _ _ _ _ (by omega)).trans (hr k hk)
      rw [show (510 : Int32) = iz 510 from rfl, show (260 : Int32) = iz 260 from rfl, iz_mul, iz_add, iz_add, show (510 : Int) + 260 * (s : Int) + (k : Int) = ((510 + 260 * s + k : Nat) : Int) by omega, iz_clN (by omega), iz_clN (by omega), er, iz_s]
      refine ⟨iz_inN (by omega) (by omega), iz_inN (by omega) (by omega), ih _ ⟨o2.w _ (hP _ (by omega) (by omega)), o2'.w _ (by omega), fun j hj => ?_⟩⟩
      by_cases e : j = k
      · rw [e, zw_eq]
      · rw [zw_ne (by omega)]
        exact c2 j (by omega)
/-- from the first line on -/
theorem r_lines {x : Int32} {N : Nat} {M0 : zM} (hN0 : ∀ j, j < N → ¬ qEnd tp n I0 j) (hN : qEnd tp n I0 N) (hN5 : N ≤ 500) (hwf : (lnQ tp n I0 N).1.1 = true → (lnQ tp n I0 N).1.2.2.1 = 1) (o0 : Off oLn M0 M) (hR : rSt M tp n (false, 0, 0, -1)) (hr : rRd M I0) (hl : M.1 10 0 0 9 = iz ((0 : Nat) : Int)) (h : ∀ M', Off oLn M0 M' → rRd M' (lnQ tp n I0 N).2 → M'.1 10 0 1 2 = iz (qFin n (lnQ tp n I0 N)).1 → M'.1 10 0 1 3 = iz (qFin n (lnQ tp n I0 N)).2 → zGo Γ 175 Q 209 [some (zo 10 0 0), some (zi x), none, none] [] M') : zGo Γ 175 Q 152 [some (zo 10 0 0), some (zi x), none, none] [] M := by
  have hn := hR.1.2.1
  have main : ∀ (d j : Nat) (M1 : zM), j + d = N → Off oLn M0 M1 → rSt M1 tp n (lnQ tp n I0 j).1 → rRd M1 (lnQ tp n I0 j).2 → ((lnQ tp n I0 j).1.1 = false → M1.1 10 0 0 9 = iz (j : Int)) → zGo Γ 175 Q 152 [some (zo 10 0 0), some (zi x), none, none] [] M1 := by
    intro d
    induction d with
    | zero =>
      intro j M1 hj o1 R1 d1 l1
      have e : j = N := by omega
      subst e
      have RBj := lnQ_RB (tp := tp) (n := n) RB_I0 j
      have r0 := RBj.1
      have r1 := RBj.2.1
      have i2 : vp_in 2 5160 := by unfold vp_in; decide
      have i0 : vp_in 0 240 := by unfold vp_in; decide
      have i1 : vp_in 1 240 := by unfold vp_in; decide
      have e2 : M1.1 10 0 1 (2 : Int32).toNatClampNeg = iz (lnQ tp n I0 j).1.2.2.1 := R1.2.2.1.1
      have e0 : M1.1 10 0 11 (0 : Int32).toNatClampNeg = iz ((lnQ tp n I0 j).2 0) := d1 0 (by omega)
      have e1 : M1.1 10 0 11 (1 : Int32).toNatClampNeg = iz ((lnQ tp n I0 j).2 1) := d1 1 (by omega)
      have fb := R1.2.2.1.2
      have ex : ((lnQ tp n I0 j).1.1 = false → tkK tp n (lnQ tp n I0 j).1.2.1 = 0) → (vp_in 2 5160 ∧ ((¬ (M1.1 10 0 1 (2 : Int32).toNatClampNeg) = 0 → zGo Γ 175 Q 209 [some (zo 10 0 0), some (zi x), none, none] [] M1) ∧ ((M1.1 10 0 1 (2 : Int32).toNatClampNeg) = 0 → (vp_in 0 240 ∧ (((M1.1 10 0 11 (0 : Int32).toNatClampNeg) = 0 → zGo Γ 175 Q 200 [some (zo 10 0 0), some (zi x), none, none] [] M1) ∧ (¬ (M1.1 10 0 11 (0 : Int32).toNatClampNeg) = 0 → (vp_in 1 240 ∧ ((¬ (M1.1 10 0 11 (1 : Int32).toNatClampNeg) = 0 → zGo Γ 175 Q 209 [some (zo 10 0 0), some (zi x), none, none] [] M1) ∧ ((M1.1 10 0 11 (1 : Int32).toNatClampNeg) = 0 → zGo Γ 175 Q 200 [some (zo 10 0 0), some (zi x), none, none] [] M1))))))))) := fun hk0 => by
        rw [e2, e0, e1, show (iz (lnQ tp n I0 j).1.2.2.1 = 0) = ((lnQ tp n I0 j).1.2.2.1 = 0) by rw [iz0, iz_eq (by omega) (by omega) (by omega) (by omega)], show (iz ((lnQ tp n I0 j).2 0) = 0) = ((lnQ tp n I0 j).2 0 = 0) by rw [iz0, iz_eq (by omega) (by omega) (by omega) (by omega)], show (iz ((lnQ tp n I0 j).2 1) = 0) = ((lnQ tp n I0 j).2 1 = 0) by rw [iz0, iz_eq (by omega) (by omega) (by omega) (by omega)]]
        have same : ¬ ((lnQ tp n I0 j).1.2.2.1 = 0 ∧ ((lnQ tp n I0 j).2 0 = 0 ∨ (lnQ tp n I0 j).2 1 = 0)) → zGo Γ 175 Q 209 [some (zo 10 0 0), some (zi x), none, none] [] M1 := fun z => by
          have e5 : qFin n (lnQ tp n I0 j) = ((lnQ tp n I0 j).1.2.2.1, (lnQ tp n I0 j).1.2.2.2) := by
            unfold qFin
            rw [if_neg z]
          rw [e5] at h
          exact h M1 o1 d1 R1.2.2.1.1 R1.2.2.2.1.1
        have few : (lnQ tp n I0 j).1.2.2.1 = 0 → ((lnQ tp n I0 j).2 0 = 0 ∨ (lnQ tp n I0 j).2 1 = 0) → zGo Γ 175 Q 200 [some (zo 10 0 0), some (zi x), none, none] [] M1 := fun f0 z => by
          have e5 : qFin n (lnQ tp n I0 j) = (5, (n : Int)) := by
            unfold qFin
            rw [if_pos ⟨f0, z⟩]
          rw [e5] at h
          cases hb : (lnQ tp n I0 j).1.1 with
          | true =>
            -- a wrong text has fault 1
            have := hwf hb
            omega
          | false =>
            have T := R1.2.2.2.2 hb
            have eW : tkW tp n (lnQ tp n I0 j).1.2.1 = n := tkK_0.mp (hk0 hb)
            refine bk_175_200 ?_
            rw [T.1, eW]
            refine r_also (kd := 5) R1 (by omega) (by omega) (fun M2 o2 R2 => ⟨rfl, ?_⟩)
            rw [alS_0 hb f0] at R2
            exact h M2 (o1.tr (o2.wk (by unfold oEn oLn; intro c t f i; omega))) (d1.en o2) R2.2.2.1.1 R2.2.2.2.1.1
        exact ⟨i2, fun z => same (fun y => z y.1), fun z => ⟨i0, fun z0 => few z (Or.inl z0), fun z0 => ⟨i1, fun z1 => same (by rintro ⟨_, y | y⟩; exact z0 y; exact z1 y), fun z1 => few z (Or.inr z1)⟩⟩⟩
      refine bk_175_152 ?_
      have e8 := R1.2.1
      cases hb : (lnQ tp n I0 j).1.1 with
      | true =>
        rw [hb] at e8
        refine ⟨fun _ => ex (fun z => by rw [hb] at z; cases z), fun z => ?_⟩
        rw [e8] at z
        exact absurd z (by decide)
      | false =>
        rw [hb] at e8
        have tw := tk_w R1 hb
        have k0 : tkK tp n (lnQ tp n I0 j).1.2.1 = 0 := by
          rcases hN with y | y
          · rw [hb] at y
            cases y
          · exact y
        refine ⟨fun z => absurd e8 z, fun _ => ⟨fun _ => ex (fun _ => k0), fun z => absurd (tw.2.2.2.mpr k0) z⟩⟩
    | succ d ih =>
      intro j M1 hj o1 R1 d1 l1
      have ns := hN0 j (by omega)
      have hw : (lnQ tp n I0 j).1.1 = false := by
        cases hb : (lnQ tp n I0 j).1.1 with
        | true => exact absurd (Or.inl hb) ns
        | false => rfl
      have hk : tkK tp n (lnQ tp n I0 j).1.2.1 ≠ 0 := fun z => ns (Or.inr z)
      have tw := tk_w R1 hw
      have e8 := R1.2.1
      rw [hw] at e8
      refine bk_175_152 ⟨fun z => absurd e8 z, fun _ => ⟨fun z => absurd (tw.2.2.2.mp z) hk, fun _ => ?_⟩⟩
      refine r_aLine R1 d1 (lnQ_RB RB_I0 j) (l1 hw) (by omega) (fun M2 o2 R2 d2 l2 => ⟨rfl, ?_⟩)
      exact ih (j + 1) M2 (by omega) (o1.tr o2) R2 d2 l2
  exact main N 0 M (by omega) o0 hR hr (fun _ => hl)
theorem r_sale {x : Int32} {cnt N : Nat} (hc : M.1 10 0 1 0 = iz (cnt : Int)) (hc3 : cnt ≤ 3) (hl : M.1 10 0 1 1 = iz (n : Int)) (hn : n ≤ 500) (ht : ∀ p, p < n → M.1 10 0 1 (10 + p) = iz (tp p) ∧ 0 ≤ tp p ∧ tp p ≤ 255)
    (hf : ((x = -1 ∧ cnt = 3) ∨ (x ≠ -1 ∧ (x.toInt < 0 ∨ (cnt : Int) ≤ x.toInt))) → ∀ M', Off oRs M M' → M'.1 10 0 1 1 = 0 → M'.1 10 0 1 2 = 0 → M'.1 10 0 1 3 = iz (-1) → Q (some (zi (-2))) M')
    (hg : ∀ s : Nat, s < 3 → ((x = -1 ∧ s = cnt) ∨ (x ≠ -1 ∧ x = iz (s : Int) ∧ s < cnt)) → (∀ j, j < N → ¬ qEnd tp n I0 j) ∧ qEnd tp n I0 N ∧ N ≤ 500 ∧ ((lnQ tp n I0 N).1.1 = true → (lnQ tp n I0 N).1.2.2.1 = 1) ∧ ((qFin n (lnQ tp n I0 N)).1 ≠ 0 → ∀ M', Off oRs M M' → M'.1 10 0 1 1 = 0 → M'.1 10 0 1 2 = iz (qFin n (lnQ tp n I0 N)).1 → M'.1 10 0 1 3 = iz (qFin n (lnQ tp n I0 N)).2 → Q (some (zi (-1))) M') ∧ ((qFin n (lnQ tp n I0 N)).1 = 0 → ∀ M', Off (oRsw s) M M' → M'.1 10 0 1 1 = 0 → M'.1 10 0 1 2 = iz (qFin n (lnQ tp n I0 N)).1 → M'.1 10 0 1 3 = iz (qFin n (lnQ tp n I0 N)).2 → M'.1 10 0 1 0 = iz (if x = -1 then (cnt : Int) + 1 else (cnt : Int)) → rH M' (510 + 260 * s) (lnQ tp n I0 N).2 → Q (some (zi (iz (s : Int)))) M'))
    (hfb : 0 ≤ (qFin n (lnQ tp n I0 N)).1 ∧ (qFin n (lnQ tp n I0 N)).1 ≤ 5) : zEv Γ 175 [zo 10 0 0, zi x] M Q := by
  have n0 : (0 : Int32).toNatClampNeg = 0 := rfl
  have n1 : (1 : Int32).toNatClampNeg = 1 := rfl
  have n2 : (2 : Int32).toNatClampNeg = 2 := rfl
  have n3 : (3 : Int32).toNatClampNeg = 3 := rfl
  have i0 : vp_in 0 5160 := by unfold vp_in; decide
  have i1 : vp_in 1 5160 := by unfold vp_in; decide
  have i2 : vp_in 2 5160 := by unfold vp_in; decide
  have i3 : vp_in 3 5160 := by unfold vp_in; decide
  have j2 : vp_in 2 240 := by unfold vp_in; decide
  refine en_175 (bk_175_0 ?_)
  simp only [n0, n1, n2, n3, hl]
  generalize hM0 : zw (zw (zw (zw (zw (zw (zw M 10 0 0 2 (iz (n : Int))) 10 0 1 1 0) 10 0 0 3 0) 10 0 1 2 0) 10 0 1 3 (-1)) 10 0 0 8 0) 10 0 0 9 0 = M0
  have o0 : Off oRs M M0 := by
    rw [← hM0]
    exact (((((((Off.rf M).w _ (by unfold oRs; omega)).w _ (by unfold oRs; omega)).w _ (by unfold oRs; omega)).w _ (by unfold oRs; omega)).w _ (by unfold oRs; omega)).w _ (by unfold oRs; omega)).w _ (by unfold oRs; omega)
  have a0 : M0.1 10 0 1 0 = iz (cnt : Int) := (o0.1 _ _ _ _ (by unfold oRs; omega)).trans hc
  have a1 : M0.1 10 0 1 1 = 0 := by
    rw [← hM0, zw_ne (by omega), zw_ne (by omega), zw_ne (by omega), zw_ne (by omega), zw_ne (by omega), zw_eq]
  have a2 : M0.1 10 0 1 2 = 0 := by
    rw [← hM0, zw_ne (by omega), zw_ne (by omega), zw_ne (by omega), zw_eq]
  have a3 : M0.1 10 0 1 3 = iz (-1) := by
    rw [← hM0, zw_ne (by omega), zw_ne (by omega), zw_eq]
    rfl
  have f2 : M0.1 10 0 0 2 = iz (n : Int) := by
    rw [← hM0, zw_ne (by omega), zw_ne (by omega), zw_ne (by omega), zw_ne (by omega), zw_ne (by omega), zw_ne (by omega), zw_eq]
  have f3 : M0.1 10 0 0 3 = iz ((0 : Nat) : Int) := by
    rw [← hM0, zw_ne (by omega), zw_ne (by omega), zw_ne (by omega), zw_ne (by omega), zw_eq]
    rfl
  have f8 : M0.1 10 0 0 8 = 0 := by
    rw [← hM0, zw_ne (by omega), zw_eq]
  have f9 : M0.1 10 0 0 9 = 0 := by
    rw [← hM0, zw_eq]
  -- the rest, once the sale is known
  have go : ∀ s : Nat, s < 3 → ((x = -1 ∧ s = cnt) ∨ (x ≠ -1 ∧ x = iz (s : Int) ∧ s < cnt)) → zGo Γ 175 Q 85 [some (zo 10 0 0), some (zi x), some (zi (iz ((0 : Nat) : Int))), none] [] M0 := by
    intro s hs hx
    obtain ⟨hN0, hN, hN5, hwf, hbad, hgood⟩ := hg s hs hx
    -- behind the lines
    have fin : ∀ M', Off oRs M M' → rRd M' (lnQ tp n I0 N).2 → M'.1 10 0 1 1 = 0 → M'.1 10 0 1 2 = iz (qFin n (lnQ tp n I0 N)).1 → M'.1 10 0 1 3 = iz (qFin n (lnQ tp n I0 N)).2 → zGo Γ 175 Q 209 [some (zo 10 0 0), some (zi x), none, none] [] M' := by
      intro M' o' d' b1 b2 b3
      have b0 : M'.1 10 0 1 0 = iz (cnt : Int) := (o'.1 _ _ _ _ (by unfold oRs; omega)).trans hc
      refine bk_175_209 ?_
      simp only [n0, n2, b0, b2]
      rw [show (iz (qFin n (lnQ tp n I0 N)).1 = 0) = ((qFin n (lnQ tp n I0 N)).1 = 0) by rw [iz0, iz_eq (by omega) (by omega) (by omega) (by omega)]]
      refine ⟨i2, fun q0 => ?_, fun q0 => hbad q0 M' o' b1 b2 b3⟩
      have hg2 := hgood q0
      have ow : Off (oRsw s) M M' := o'.wk fun _ _ _ _ => oRs_w
      refine ⟨fun xn => ⟨fun _ => ?_, fun z => absurd z xn⟩, fun xe => ⟨i0, fun z => absurd xe z, fun _ => ⟨i0, i0, ?_⟩⟩⟩
      · have hx2 : x = iz (s : Int) := by
          rcases hx with y | y
          · exact absurd y.1 xn
          · exact y.2.1
        subst hx2
        refine r_copy hs (P := oRsw s) (by unfold oRsw; intro i h1 h2; omega) ow d' (fun M2 o2 o2' h2 => ?_)
        refine hg2 M2 o2 ((o2'.1 _ _ _ _ (by omega)).trans b1) ((o2'.1 _ _ _ _ (by omega)).trans b2) ((o2'.1 _ _ _ _ (by omega)).trans b3) ?_ h2
        rw [if_neg xn]
        exact (o2'.1 _ _ _ _ (by omega)).trans b0
      · have hs2 : s = cnt := by
          rcases hx with y | y
          · exact y.2
          · exact absurd xe y.1
        subst hs2
        rw [iz1, iz_add]
        have d2 : rRd (zw M' 10 0 1 0 (iz ((s : Int) + 1))) (lnQ tp n I0 N).2 := d'.off (P := fun c t f i => c = 10 ∧ t = 0 ∧ f = 1) ((Off.rf M').w _ ⟨rfl, rfl, rfl⟩) (by intro i; omega)
        refine r_copy hs (P := oRsw s) (by unfold oRsw; intro i h1 h2; omega) (ow.w _ (by unfold oRsw; omega)) d2 (fun M2 o2 o2' h2 => ?_)
        refine hg2 M2 o2 (((o2'.1 _ _ _ _ (by omega)).trans (zw_ne (by omega))).trans b1) (((o2'.1 _ _ _ _ (by omega)).trans (zw_ne (by omega))).trans b2) (((o2'.1 _ _ _ _ (by omega)).trans (zw_ne (by omega))).trans b3) ?_ h2
        rw [if_pos xe]
        exact (o2'.1 _ _ _ _ (by omega)).trans zw_eq
    -- the second loop and the first token
    have l2 : ∀ M1, Off (fun c t f _ => c = 10 ∧ t = 0 ∧ f = 11) M0 M1 → (∀ k, k < 240 → M1.1 10 0 11 k = iz (if k = 2 then 1 else 0)) → zGo Γ 175 Q 114 [some (zo 10 0 0), some (zi x), some (zi (iz ((0 : Nat) : Int))), none] [] M1 := by
      intro M1 o1 c1
      refine zloop (P := fun j M2 => Off (fun c t f _ => c = 10 ∧ t = 0 ∧ f = 11) M0 M2 ∧ ∀ k, k < 240 → M2.1 10 0 11 k = iz (if k = 2 then 1 else if 24 ≤ k ∧ k < 24 + j then 1 else if 31 ≤ k ∧ k < 31 + j then 9999 else 0)) (G := fun j M2 => zGo Γ 175 Q 114 [some (zo 10 0 0), some (zi x), some (zi (iz (j : Int))), none] [] M2) (n := 7) ?_ ?_ 7 0 M1 (by omega) ⟨o1, fun k hk => ?_⟩
      · rintro M2 ⟨o2, c2⟩
        refine bk_175_114 ⟨fun _ => ?_, fun q => ?_⟩
        · have tpM : rTp M2 tp n := ⟨(o2.1 _ _ _ _ (by omega)).trans f2, hn, fun p hp => ⟨((o2.1 _ _ _ _ (by omega)).trans (o0.1 _ _ _ _ (by unfold oRs; omega))).trans (ht p hp).1, (ht p hp).2⟩⟩
          refine r_advance (k := 0) tpM ((o2.1 _ _ _ _ (by omega)).trans f3) (fun M3 o3 t3 => ⟨rfl, ?_⟩)
          have o23 : Off oRs M M3 := (o0.tr (o2.wk (by unfold oRs; intro c t f i; omega))).tr (o3.wk (by unfold oAd oRs; intro c t f i; omega))
          have k1 : M3.1 10 0 1 1 = 0 := ((o3.1 _ _ _ _ (by unfold oAd; omega)).trans (o2.1 _ _ _ _ (by omega))).trans a1
          have st3 : rSt M3 tp n (false, 0, 0, -1) := ⟨tpM.off o3 (by unfold oAd; omega) (by unfold oAd; intro p _; omega), ((o3.1 _ _ _ _ (by unfold oAd; omega)).trans (o2.1 _ _ _ _ (by omega))).trans f8, ⟨((o3.1 _ _ _ _ (by unfold oAd; omega)).trans (o2.1 _ _ _ _ (by omega))).trans a2, by show (0 : Int) ≤ 0; omega, by show (0 : Int) ≤ 5; omega⟩, ⟨((o3.1 _ _ _ _ (by unfold oAd; omega)).trans (o2.1 _ _ _ _ (by omega))).trans a3, by show (-1 : Int) ≤ -1; omega, by show (-1 : Int) ≤ 500; omega⟩, fun _ => t3⟩
          have rd3 : rRd M3 I0 := fun k hk => by
            rw [o3.1 _ _ _ _ (by unfold oAd; omega), c2 k hk]
            congr 1
          refine r_lines (M0 := M3) hN0 hN hN5 hwf (Off.rf M3) st3 rd3 (((o3.1 _ _ _ _ (by unfold oAd; omega)).trans (o2.1 _ _ _ _ (by omega))).trans f9) (fun M4 o4 d4 b2 b3 => fin M4 (o23.tr (o4.wk (by unfold oLn oRs; intro c t f i; omega))) d4 ((o4.1 _ _ _ _ (by unfold oLn; omega)).trans k1) b2 b3)
        · rw [show (7 : Int32) = iz 7 from rfl, iz_le (by omega) (by omega) (by omega) (by omega)] at q
          omega
      · rintro j M2 hj ⟨o2, c2⟩ ih
        refine bk_175_114 ⟨fun q => ?_, fun _ => ?_⟩
        · rw [show (7 : Int32) = iz 7 from rfl, iz_le (by omega) (by omega) (by omega) (by omega)] at q
          omega
        · rw [show (24 : Int32) = iz 24 from rfl, show (31 : Int32) = iz 31 from rfl, iz_add, iz_add, show (24 : Int) + (j : Int) = ((24 + j : Nat) : Int) by omega, show (31 : Int) + (j : Int) = ((31 + j : Nat) : Int) by omega, iz_clN (by omega), iz_clN (by omega), iz_s]
          refine ⟨iz_inN (by omega) (by omega), iz_inN (by omega) (by omega), ih _ ⟨(o2.w _ ⟨rfl, rfl, rfl⟩).w _ ⟨rfl, rfl, rfl⟩, fun k hk => ?_⟩⟩
          by_cases e1 : k = 31 + j
          · subst e1
            rw [zw_eq, if_neg (by omega), if_neg (by omega), if_pos (by omega)]
            rfl
          · rw [zw_ne (by omega)]
            by_cases e2 : k = 24 + j
            · subst e2
              rw [zw_eq, if_neg (by omega), if_pos (by omega)]
              rfl
            · rw [zw_ne (by omega), c2 k hk]
              congr 1
              by_cases e3 : k = 2
              · rw [if_pos e3, if_pos e3]
              · rw [if_neg e3, if_neg e3]
                by_cases e4 : 24 ≤ k ∧ k < 24 + j
                · rw [if_pos e4, if_pos (show 24 ≤ k ∧ k < 24 + (j + 1) by omega)]
                · rw [if_neg e4, if_neg (show ¬ (24 ≤ k ∧ k < 24 + (j + 1)) by omega)]
                  by_cases e5 : 31 ≤ k ∧ k < 31 + j
                  · rw [if_pos e5, if_pos (show 31 ≤ k ∧ k < 31 + (j + 1) by omega)]
                  · rw [if_neg e5, if_neg (show ¬ (31 ≤ k ∧ k < 31 + (j + 1)) by omega)]
      · rw [c1 k hk]
        congr 1
        by_cases e3 : k = 2
        · rw [if_pos e3, if_pos e3]
        · rw [if_neg e3, if_neg e3, if_neg (by omega), if_neg (by omega)]
    refine zloop (P := fun j M2 => Off (fun c t f _ => c = 10 ∧ t = 0 ∧ f = 11) M0 M2 ∧ ∀ k, k < j → M2.1 10 0 11 k = iz 0) (G := fun j M2 => zGo Γ 175 Q 85 [some (zo 10 0 0), some (zi x), some (zi (iz (j : Int))), none] [] M2) (n := 240) ?_ ?_ 240 0 M0 (by omega) ⟨Off.rf M0, fun k hk => by omega⟩
    · rintro M2 ⟨o2, c2⟩
      refine bk_175_85 ⟨fun _ => ⟨j2, ?_⟩, fun q => ?_⟩
      · rw [n2]
        refine l2 _ (o2.w _ ⟨rfl, rfl, rfl⟩) (fun k hk => ?_)
        by_cases e : k = 2
        · subst e
          rw [zw_eq, if_pos rfl]
          rfl
        · rw [zw_ne (by omega), if_neg e]
          exact c2 k hk
      · rw [show (240 : Int32) = iz 240 from rfl, iz_le (by omega) (by omega) (by omega) (by omega)] at q
        omega
    · rintro j M2 hj ⟨o2, c2⟩ ih
      refine bk_175_85 ⟨fun q => ?_, fun _ => ?_⟩
      · rw [show (240 : Int32) = iz 240 from rfl, iz_le (by omega) (by omega) (by omega) (by omega)] at q
        omega
      · rw [iz_clN (by omega), iz_s]
        refine ⟨iz_inN (by omega) (by omega), ih _ ⟨o2.w _ ⟨rfl, rfl, rfl⟩, fun k hk => ?_⟩⟩
        by_cases e : k = j
        · subst e
          rw [zw_eq]
          rfl
        · rw [zw_ne (by omega)]
          exact c2 k (by omega)
  rw [a0]
  refine ⟨i1, i1, i2, i3, Or.inl rfl, fun xn => ⟨i0, ?_⟩, fun xe => ⟨i0, fun z => ?_, fun z => hf (Or.inl ⟨xe, ?_⟩) M0 o0 a1 a2 a3⟩⟩
  · obtain ⟨a, ha1, ha2, rfl⟩ := iz_ex x
    rw [iz_toInt ha1 ha2] at hf
    rw [iz0, iz1, iz_sub]
    refine r_isIn (by omega) (by omega) (by omega) (fun q1 q2 => ⟨_, rfl, fun _ => ?_, fun z => absurd z (by decide)⟩) (fun q => ⟨_, rfl, fun z => absurd rfl z, fun _ => hf (Or.inr ⟨xn, by omega⟩) M0 o0 a1 a2 a3⟩)
    obtain ⟨s, rfl⟩ := Int.eq_ofNat_of_zero_le q1
    exact go s (by omega) (Or.inr ⟨xn, rfl, by omega⟩)
  · rw [show (3 : Int32) = iz 3 from rfl, iz_eq (by omega) (by omega) (by omega) (by omega)] at z
    exact go cnt (by omega) (Or.inl ⟨xe, rfl⟩)
  · rw [show (3 : Int32) = iz 3 from rfl, iz_eq (by omega) (by omega) (by omega) (by omega)] at z
    omega
end Za5
