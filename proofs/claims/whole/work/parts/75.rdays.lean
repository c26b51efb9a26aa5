/-! day, spent -/
def oDy (c t f i : Nat) : Prop := c = 10 ∧ t = 0 ∧ (f = 0 ∧ i = 18 ∨ f = 18 ∨ f = 20 ∨ f = 21 ∨ f = 34 ∨ f = 35)
def rPe (M : zM) (S : SB) (pu en : Nat → Int) : Prop := ∀ i, i < (S 1).toNat → M.1 10 0 34 i = iz (pu i) ∧ M.1 10 0 35 i = iz (en i)
theorem oDy_sc {c t f i : Nat} (h : oDy c t f i) : rSc c t f i := by
  unfold oDy at h
  unfold rSc
  omega
theorem rLy_dy {c t f i : Nat} (h : rLy c t f i) : oDy c t f i := by
  unfold rLy at h
  unfold oDy
  omega
section Z75
variable {Γ : zC} {Q : zQ} {M : zM} {b ts cnt : Nat} {S : SB} {SS : Nat → SB} {pu en : Nat → Int}
theorem rB.dy {M M' : zM} (h : rB M b S) (ho : Off oDy M M') : rB M' b S := h.off ho (by unfold oDy; intro i; omega) (by unfold oDy; omega) (by unfold oDy; omega) (by unfold oDy; omega)
theorem r_daysNow {d : Nat} (hS : SOK S) (hB : rB M b S) (hb : rBd M (S 1).toNat (bdS S) (mkS S) (fun _ => false)) (hd : 1 ≤ d ∧ d ≤ 60) (h : ∀ M', Off oDy M M' → rOr M' (lnE S (dyE S d).2) → rPy M' (S 0).toNat (pyE S (dyE S d).2) → rPe M' S (dyE S d).1 (dyE S d).2 → Q none M') : zEv Γ 228 [zo 10 0 0, zi (iz (d : Int))] M Q := by
  have h7 := hS.2.1
  have h6 := hS.1
  have hr := rngS hS
  have e13 : ∀ {M2 : zM}, Off oDy M M2 → M2.1 10 0 0 13 = iz ((S 0).toNat : Int) := fun {M2} o2 => by
    rw [(hB.dy o2).2.1]
    exact congrArg iz (by omega)
  have e14 : ∀ {M2 : zM}, Off oDy M M2 → M2.1 10 0 0 14 = iz ((S 1).toNat : Int) := fun {M2} o2 => by
    rw [(hB.dy o2).2.2.1]
    exact congrArg iz (by omega)
  refine en_228 (bk_228_0 ?_)
  refine zloop (P := fun i M2 => Off oDy M M2 ∧ rBd M2 (S 1).toNat (bdS S) (mkS S) (fun _ => false) ∧ ∀ j, j < i → M2.1 10 0 34 j = iz (S (31 + j)) ∧ M2.1 10 0 35 j = iz (-1)) (G := fun i M2 => zGo Γ 228 Q 2 [some (zo 10 0 0), some (zi (iz (d : Int))), some (zi (iz (i : Int))), none, none, none] [] M2) (n := (S 1).toNat) ?_ ?_ (S 1).toNat 0 M (by omega) ⟨Off.rf M, hb, fun j hj => by omega⟩
  · rintro M1 ⟨o1, b1, s1⟩
    refine bk_228_2 ⟨fun _ => ?_, fun q => ?_⟩
    · have hno : (fun _ : Nat => false) = exE (dyE S 0).2 := by
        funext i
        rfl
      rw [hno] at b1
      refine zloop (P := fun k M2 => Off oDy M M2 ∧ rBd M2 (S 1).toNat (bdS S) (mkS S) (exE (dyE S k).2) ∧ rPe M2 S (dyE S k).1 (dyE S k).2 ∧ (1 ≤ k → rOr M2 (lnE S (dyE S k).2) ∧ rPy M2 (S 0).toNat (pyE S (dyE S k).2))) (G := fun k M2 => zGo Γ 228 Q 39 [some (zo 10 0 0), some (zi (iz (d : Int))), some (zi (iz ((k + 1 : Nat) : Int))), none, none, none] [] M2) (n := d) ?_ ?_ d 0 M1 (by omega) ⟨o1, b1, s1, fun z => by omega⟩
      · rintro M2 ⟨o2, b2, p2, l2⟩
        refine bk_228_39 ⟨fun _ => h M2 o2 (l2 (by omega)).1 (l2 (by omega)).2 p2, fun q => ?_⟩
        rw [iz_lt (by omega) (by omega) (by omega) (by omega)] at q
        omega
      · rintro k M2 hk ⟨o2, b2, p2, -⟩ ih
        have hbd := dyE_b hS k (by omega)
        refine bk_228_39 ⟨fun q => ?_, fun _ => ?_⟩
        · rw [iz_lt (by omega) (by omega) (by omega) (by omega)] at q
          omega
        -- the payments of the day
        have pays : ∀ (M3 : zM) (en' : Nat → Int), Off oDy M M3 → rBd M3 (S 1).toNat (bdS S) (mkS S) (exE en') → rPe M3 S (dyE S k).1 en' → rOr M3 (lnE S en') → rPy M3 (S 0).toNat (pyE S en') → en' = enS S (dyE S k).1 ((k + 1 : Nat) : Int) 7 (dyE S k).2 → zGo Γ 228 Q 149 [some (zo 10 0 0), some (zi (iz (d : Int))), some (zi (iz ((k + 1 : Nat) : Int))), none, some (zi 0), none] [] M3 := by
          intro M3 en' o3 b3 p3 l3 y3 hE
          have hlen := lnE_len hS (en := en')
          have hst : stE S en' = min (lnE S en').length (S 0).toNat := rfl
          refine zloop (P := fun q M4 => Off oDy M M4 ∧ rBd M4 (S 1).toNat (bdS S) (mkS S) (exE en') ∧ rPe M4 S (puQ S (dyE S k).1 en' q) en' ∧ rOr M4 (lnE S en') ∧ rPy M4 (S 0).toNat (pyE S en')) (G := fun q M4 => zGo Γ 228 Q 149 [some (zo 10 0 0), some (zi (iz (d : Int))), some (zi (iz ((k + 1 : Nat) : Int))), none, some (zi (iz (q : Int))), none] [] M4) (n := stE S en') ?_ ?_ (stE S en') 0 M3 (by omega) ⟨o3, b3, p3, l3, y3⟩
          · rintro M4 ⟨o4, b4, p4, l4, y4⟩
            have nx : zGo Γ 228 Q 39 [some (zo 10 0 0), some (zi (iz (d : Int))), some (zi (iz ((k + 1 : Nat) : Int) + 1)), none, none, none] [] M4 := by
              rw [iz_s]
              subst hE
              exact ih M4 ⟨o4, b4, p4, fun _ => ⟨l4, y4⟩⟩
            refine bk_228_149 ⟨fun _ => nx, fun q => ⟨fun _ => nx, fun q2 => ?_⟩⟩
            rw [e13 o4, iz_le (by omega) (by omega) (by omega) (by omega)] at q
            rw [l4.1, iz_le (by omega) (by omega) (by omega) (by omega)] at q2
            omega
          · rintro q M4 hq ⟨o4, b4, p4, l4, y4⟩ ih4
            have hx := (lnE_lt (getD_mem (show q < (lnE S en').length by omega))).1
            refine bk_228_149 ⟨fun z => ?_, fun _ => ⟨fun z => ?_, fun _ => ⟨iz_inN (by omega) (by omega), ?_⟩⟩⟩
            · rw [e13 o4, iz_le (by omega) (by omega) (by omega) (by omega)] at z
              omega
            · rw [l4.1, iz_le (by omega) (by omega) (by omega) (by omega)] at z
              omega
            rw [iz_clN (show q < 2147483648 by omega), l4.2 q (by omega), iz_clN (show (lnE S en').getD q 0 < 2147483648 by omega), (p4 _ hx).1, y4 q (by omega), iz_sub, iz_s]
            have v7 := iz_inN (i := (lnE S en').getD q 0) (n := 7) (by omega) (by omega)
            have ow : Off (fun c t f _ => c = 10 ∧ t = 0 ∧ f = 34) M4 (zw M4 10 0 34 ((lnE S en').getD q 0) (iz (puQ S (dyE S k).1 en' q ((lnE S en').getD q 0) - pyE S en' q))) := (Off.rf M4).w _ ⟨rfl, rfl, rfl⟩
            refine ⟨v7, iz_inN (by omega) (by omega), v7, ih4 _ ⟨o4.w _ (by unfold oDy; omega), b4.off ow (by intro i; omega) (by intro i; omega) (by intro i; omega), fun i hi => ⟨?_, (ow.1 _ _ _ _ (by omega)).trans (p4 i hi).2⟩, ⟨(ow.1 _ _ _ _ (by omega)).trans l4.1, fun j hj => (ow.1 _ _ _ _ (by omega)).trans (l4.2 j hj)⟩, fun j hj => (ow.1 _ _ _ _ (by omega)).trans (y4 j hj)⟩⟩
            rw [puQ_s (by omega)]
            by_cases e : i = (lnE S en').getD q 0
            · rw [e, zw_eq, updB_eq]
            · rw [zw_ne (by omega), updB_ne e]
              exact (p4 i hi).1
        -- those who cannot pay
        have main : ∀ (m : Nat) (M3 : zM) (en' : Nat → Int), (lnE S en').length ≤ m → Off oDy M M3 → rBd M3 (S 1).toNat (bdS S) (mkS S) (exE en') → rPe M3 S (dyE S k).1 en' → enS S (dyE S k).1 ((k + 1 : Nat) : Int) m en' = enS S (dyE S k).1 ((k + 1 : Nat) : Int) 7 (dyE S k).2 → zGo Γ 228 Q 46 [some (zo 10 0 0), some (zi (iz (d : Int))), some (zi (iz ((k + 1 : Nat) : Int))), some (zi 1), none, none] [] M3 := by
          intro m
          induction m with
          | zero =>
            intro M3 en' hm o3 b3 p3 hE
            have B3 := hB.dy o3
            refine bk_228_46 ⟨fun q => absurd q (by decide), fun _ => r_of B3 3 (by omega) rfl ⟨_, rfl, ?_⟩⟩
            rw [e14 o3]
            refine r_laysE hS B3 (by omega) hr b3 hS.2.2.2.1 (fun M4 o4 l4 y4 => ⟨rfl, ?_⟩)
            have o4' : Off oDy M M4 := o3.tr (o4.wk fun _ _ _ _ => rLy_dy)
            have l4 : rOr M4 (lnE S en') := l4
            have nx := pays M4 en' o4' (b3.off o4 (fun i => rLy_n (by omega) (by omega) (by omega)) (fun i => rLy_n (by omega) (by omega) (by omega)) (fun i => rLy_n (by omega) (by omega) (by omega))) (fun i hi => ⟨(o4.1 _ _ _ _ (rLy_n (by omega) (by omega) (by omega))).trans (p3 i hi).1, (o4.1 _ _ _ _ (rLy_n (by omega) (by omega) (by omega))).trans (p3 i hi).2⟩) l4 y4 hE
            refine bk_228_68 ⟨fun _ => bk_228_46 ⟨fun _ => nx, fun q => absurd rfl q⟩, fun _ => ⟨fun _ => bk_228_46 ⟨fun _ => nx, fun q => absurd rfl q⟩, fun q => absurd ?_ q⟩⟩
            rw [l4.1, show (lnE S en').length = 0 by omega]
            decide
          | succ m ihm =>
            intro M3 en' hm o3 b3 p3 hE
            have B3 := hB.dy o3
            refine bk_228_46 ⟨fun q => absurd q (by decide), fun _ => r_of B3 3 (by omega) rfl ⟨_, rfl, ?_⟩⟩
            rw [e14 o3]
            refine r_laysE hS B3 (by omega) hr b3 hS.2.2.2.1 (fun M4 o4 l4 y4 => ⟨rfl, ?_⟩)
            have o4' : Off oDy M M4 := o3.tr (o4.wk fun _ _ _ _ => rLy_dy)
            have l4 : rOr M4 (lnE S en') := l4
            have y4 : rPy M4 (S 0).toNat (pyE S en') := y4
            have b4 := b3.off o4 (fun i => rLy_n (by omega) (by omega) (by omega)) (fun i => rLy_n (by omega) (by omega) (by omega)) (fun i => rLy_n (by omega) (by omega) (by omega))
            have p4 : rPe M4 S (dyE S k).1 en' := fun i hi => ⟨(o4.1 _ _ _ _ (rLy_n (by omega) (by omega) (by omega))).trans (p3 i hi).1, (o4.1 _ _ _ _ (rLy_n (by omega) (by omega) (by omega))).trans (p3 i hi).2⟩
            have hlen := lnE_len hS (en := en')
            have hst : stE S en' = min (lnE S en').length (S 0).toNat := rfl
            refine nloop (G := fun j => por S (dyE S k).1 en' = fnd (fun p => decide ((dyE S k).1 ((lnE S en').getD p 0) < pyE S en' p)) j (stE S en' - j) → zGo Γ 228 Q 68 [some (zo 10 0 0), some (zi (iz (d : Int))), some (zi (iz ((k + 1 : Nat) : Int))), some (zi 0), some (zi (iz (j : Int))), none] [] M4) (n := stE S en') (fun e => ?_) (fun j hj ihj e => ?_) (stE S en') 0 (by omega) rfl
            · rw [Nat.sub_self] at e
              have nx := pays M4 en' o4' b4 p4 l4 y4 (by rw [← hE, enS_fix _ _ e])
              refine bk_228_68 ⟨fun _ => bk_228_46 ⟨fun _ => nx, fun q => absurd rfl q⟩, fun q => ⟨fun _ => bk_228_46 ⟨fun _ => nx, fun q => absurd rfl q⟩, fun q2 => ?_⟩⟩
              rw [e13 o4', iz_le (by omega) (by omega) (by omega) (by omega)] at q
              rw [l4.1, iz_le (by omega) (by omega) (by omega) (by omega)] at q2
              omega
            · rw [show stE S en' - j = (stE S en' - (j + 1)) + 1 by omega, fnd_s j] at e
              have hmem := getD_mem (show j < (lnE S en').length by omega)
              have hx := (lnE_lt hmem).1
              have hpb := hbd.1 ((lnE S en').getD j 0) (by omega)
              have hpy := pyE_b hS (en := en') j
              refine bk_228_68 ⟨fun z => ?_, fun _ => ⟨fun z => ?_, fun _ => ⟨fun z => absurd rfl z, fun _ => ⟨iz_inN (by omega) (by omega), ?_⟩⟩⟩⟩
              · rw [e13 o4', iz_le (by omega) (by omega) (by omega) (by omega)] at z
                omega
              · rw [l4.1, iz_le (by omega) (by omega) (by omega) (by omega)] at z
                omega
              rw [iz_clN (show j < 2147483648 by omega), l4.2 j (by omega), iz_clN (show (lnE S en').getD j 0 < 2147483648 by omega), (p4 _ hx).1, y4 j (by omega), iz_lt (by omega) (by omega) (by omega) (by omega)]
              have v7 := iz_inN (i := (lnE S en').getD j 0) (n := 7) (by omega) (by omega)
              refine ⟨v7, iz_inN (by omega) (by omega), fun q => ⟨iz_inN (by omega) (by omega), v7, ?_⟩, fun q => ?_⟩
              · rw [if_pos (by rw [decide_eq_true_iff]; exact q)] at e
                have est : stpE S (dyE S k).1 ((k + 1 : Nat) : Int) en' = updB en' ((lnE S en').getD j 0) ((k + 1 : Nat) : Int) := by unfold stpE; rw [e]
                have hlt := stp_lt (d := ((k + 1 : Nat) : Int)) (by omega) e
                rw [enS, est] at hE
                rw [est] at hlt
                have ow : Off (fun c t f _ => c = 10 ∧ t = 0 ∧ (f = 18 ∨ f = 35)) M4 (zw (zw M4 10 0 18 ((lnE S en').getD j 0) (vp_nar .boolean 1)) 10 0 35 ((lnE S en').getD j 0) (iz ((k + 1 : Nat) : Int))) := ((Off.rf M4).w _ ⟨rfl, rfl, Or.inl rfl⟩).w _ ⟨rfl, rfl, Or.inr rfl⟩
                have o5 : Off oDy M (zw (zw M4 10 0 18 ((lnE S en').getD j 0) (vp_nar .boolean 1)) 10 0 35 ((lnE S en').getD j 0) (iz ((k + 1 : Nat) : Int))) := o4'.tr (ow.wk (by unfold oDy; intro c t f i; omega))
                have nx := ihm (zw (zw M4 10 0 18 ((lnE S en').getD j 0) (vp_nar .boolean 1)) 10 0 35 ((lnE S en').getD j 0) (iz ((k + 1 : Nat) : Int))) (updB en' ((lnE S en').getD j 0) ((k + 1 : Nat) : Int)) (by omega) o5 (fun i hi => ?_) (fun i hi => ?_) hE
                · exact bk_228_68 ⟨fun _ => nx, fun _ => ⟨fun _ => nx, fun _ => ⟨fun _ => nx, fun z => absurd z (by decide)⟩⟩⟩
                · obtain ⟨z1, z2, z3⟩ := b4 i hi
                  refine ⟨(ow.1 _ _ _ _ (by omega)).trans z1, (ow.1 _ _ _ _ (by omega)).trans z2, ?_⟩
                  rw [zw_ne (by omega)]
                  unfold exE
                  by_cases ei : i = (lnE S en').getD j 0
                  · rw [ei, zw_eq, updB_eq, if_pos (by rw [decide_eq_true_iff]; omega)]
                    rfl
                  · rw [zw_ne (by omega), updB_ne ei]
                    exact z3
                · refine ⟨(ow.1 _ _ _ _ (by omega)).trans (p4 i hi).1, ?_⟩
                  by_cases ei : i = (lnE S en').getD j 0
                  · rw [ei, zw_eq, updB_eq]
                  · rw [zw_ne (by omega), updB_ne ei, zw_ne (by omega)]
                    exact (p4 i hi).2
              · rw [if_neg (by rw [decide_eq_true_iff]; exact q)] at e
                rw [iz_s]
                exact ihj e
        exact main 7 M2 _ (lnE_len hS) o2 b2 p2 rfl
    · rw [e14 o1, iz_le (by omega) (by omega) (by omega) (by omega)] at q
      omega
  · rintro i M2 hi ⟨o2, b2, s2⟩ ih
    have B2 := hB.dy o2
    have v7 := iz_inN (i := i) (n := 7) (by omega) (by omega)
    have e31 : (31 : Int32) + iz (i : Int) = iz ((31 + i : Nat) : Int) := by
      rw [show (31 : Int32) = iz 31 from rfl, iz_add]
      exact congrArg iz (by omega)
    refine bk_228_2 ⟨fun q => ?_, fun _ => r_of B2 (31 + i) (by omega) e31 ⟨_, rfl, v7, v7, ?_⟩⟩
    · rw [e14 o2, iz_le (by omega) (by omega) (by omega) (by omega)] at q
      omega
    · rw [iz_clN (by omega), iz_s]
      refine ih _ ⟨(o2.w _ (by unfold oDy; omega)).w _ (by unfold oDy; omega), (b2.w (by omega)).w (by omega), fun j hj => ?_⟩
      by_cases e : j = i
      · subst e
        rw [zw_ne (by omega), zw_eq, zw_eq]
        exact ⟨rfl, rfl⟩
      · rw [zw_ne (by omega), zw_ne (by omega), zw_ne (by omega), zw_ne (by omega)]
        exact s2 j (by omega)
end Z75
