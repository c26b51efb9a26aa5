/-! pair: the calls -/
section Z79
variable {Γ : zC} {Q : zQ} {M : zM} {b ts cnt u v : Nat} {S : SB} {SS : Nat → SB}
theorem c_pair {x y z w : Int32} (hW : cW M cnt SS) (hI : ∀ t, t < 4 → lI M t) (h : ∀ M', Kp M M' → Q (some (zi (iz (fS cnt SS x (fun S => gPair S y z w) (-100000))))) M') : zEv Γ 142 [zo 9 0 0, zi x, zi y, zi z, zi w] M Q := by
  refine en_142 (bk_142_0 (c_saleAt hW (fun q => Or.inl ⟨rfl, ?_⟩) (fun s hs hx => Or.inr ⟨s, rfl, ?_⟩)))
  · have := h M (Kp.rf M)
    rw [fS_out q] at this
    exact this
  · obtain ⟨hC, hS⟩ := hW.2.2 s hs
    have h7 := hS.2.1
    have h6 := hS.1
    rw [fS_in hs hW.2.1 hx] at h
    unfold gPair at h
    have bad : ¬ ((0 ≤ y.toInt ∧ y.toInt < SS s 1) ∧ (0 ≤ z.toInt ∧ z.toInt < SS s 1) ∧ y.toInt ≠ z.toInt ∧ 0 ≤ w.toInt ∧ w.toInt ≤ 2) → Q (some (zi (-100000))) M := fun q => by
      have h2 := h M (Kp.rf M)
      rw [if_neg q] at h2
      exact h2
    refine c_hasBidder hS hC (fun q => ⟨_, rfl, fun _ => bad (by omega), fun q' => absurd rfl q'⟩) (fun i hi hy => ⟨_, rfl, fun q' => absurd q' (by decide), fun _ => c_hasBidder hS hC (fun q => ⟨_, rfl, fun _ => bad (by omega), fun q' => absurd rfl q'⟩) (fun j hj hz => ⟨_, rfl, fun q' => absurd q' (by decide), fun _ => ?_⟩)⟩)
    subst hy hz
    obtain ⟨a, ha1, ha2, rfl⟩ := iz_ex w
    rw [iz_toInt (by omega) (by omega), iz_toInt (by omega) (by omega), iz_toInt ha1 ha2] at h bad
    rw [show (iz a < 0) = (a < 0) by rw [iz0, iz_lt (by omega) (by omega) (by omega) (by omega)], show (iz a ≤ 2) = (a ≤ 2) by rw [show (2 : Int32) = iz 2 from rfl, iz_le (by omega) (by omega) (by omega) (by omega)], show (iz a = 0) = (a = 0) by rw [iz0, iz_eq (by omega) (by omega) (by omega) (by omega)], show (iz a = 1) = (a = 1) by rw [iz1, iz_eq (by omega) (by omega) (by omega) (by omega)], iz_eq (by omega) (by omega) (by omega) (by omega), iz_min (by omega) (by omega) (by omega) (by omega), iz_max (by omega) (by omega) (by omega) (by omega)]
    refine ⟨fun q => bad (by omega), fun q0 => ⟨fun q => bad (by omega), fun q1 => ⟨fun q2 => ?_, fun q => bad (by omega)⟩⟩⟩
    rw [if_pos (by omega)] at h
    rw [show min (i : Int) (j : Int) = (((min (i : Int) (j : Int)).toNat : Nat) : Int) by omega, show max (i : Int) (j : Int) = (((max (i : Int) (j : Int)).toNat : Nat) : Int) by omega]
    refine c_bidAsOne hS hC (hI 1 (by omega)) (by omega) (by omega) (by omega) (fun M1 o1 i1 q1 => ⟨rfl, ?_⟩)
    have h := h M1 (Kp.of1 o1 (by unfold oPr; intro c t f i; omega) i1)
    rw [q1.1, q1.2.1, q1.2.2]
    refine ⟨fun z0 => ⟨fun z1 => ?_, fun z1 => ?_⟩, fun z0 => ?_⟩
    · rw [if_neg z0, if_neg z1] at h
      exact h
    · rw [if_neg z0, if_pos z1] at h
      exact h
    · rw [if_pos z0] at h
      exact h
theorem r_pair {x y z w : Int32} (hW : rW M cnt SS) (ht0 : M.1 10 0 0 21 = iz (-1)) (h : ∀ M', Kp M M' → Q (some (zi (iz (fS cnt SS x (fun S => gPair S y z w) (-100000))))) M') : zEv Γ 243 [zo 10 0 0, zi x, zi y, zi z, zi w] M Q := by
  refine en_243 (bk_243_0 (r_takesSale hW (fun q => ⟨_, rfl, fun _ => ?_, fun q' => absurd rfl q'⟩) (fun s n M1 hs hx hn ho hB hb => ⟨_, rfl, fun q' => absurd q' (by decide), fun _ => ?_⟩)))
  · have := h M (Kp.rf M)
    rw [fS_out q] at this
    exact this
  · have hS := (hW.2.2 s hs).2
    have h7 := hS.2.1
    have h6 := hS.1
    have en : n = (SS s 1).toNat := by omega
    subst en
    have ht1 : M1.1 10 0 0 21 = iz (-1) := (ho.1 _ _ _ _ (by unfold rSc; omega)).trans ht0
    rw [fS_in hs hW.2.1 hx] at h
    unfold gPair at h
    have bad : ¬ ((0 ≤ y.toInt ∧ y.toInt < SS s 1) ∧ (0 ≤ z.toInt ∧ z.toInt < SS s 1) ∧ y.toInt ≠ z.toInt ∧ 0 ≤ w.toInt ∧ w.toInt ≤ 2) → Q (some (zi (-100000))) M1 := fun q => by
      have h2 := h M1 (Kp.ofR ho)
      rw [if_neg q] at h2
      exact h2
    refine r_isBidder hS hB (fun q => ⟨_, rfl, fun _ => bad (by omega), fun q' => absurd rfl q'⟩) (fun i hi hy => ⟨_, rfl, fun q' => absurd q' (by decide), fun _ => r_isBidder hS hB (fun q => ⟨_, rfl, fun _ => bad (by omega), fun q' => absurd rfl q'⟩) (fun j hj hz => ⟨_, rfl, fun q' => absurd q' (by decide), fun _ => ?_⟩)⟩)
    subst hy hz
    obtain ⟨a, ha1, ha2, rfl⟩ := iz_ex w
    rw [iz_toInt (by omega) (by omega), iz_toInt (by omega) (by omega), iz_toInt ha1 ha2] at h bad
    rw [iz_eq (by omega) (by omega) (by omega) (by omega)]
    refine ⟨fun q => bad (by omega), fun q0 => r_isIn (lo := 0) (hi := 2) (by omega) (by omega) (by omega) (fun q3 q4 => ⟨_, rfl, fun _ => ?_, fun q' => absurd q' (by decide)⟩) (fun q3 => ⟨_, rfl, fun q' => absurd rfl q', fun _ => bad (by omega)⟩)⟩
    rw [if_pos (by omega)] at h
    have main : ∀ u v : Nat, u = (min (i : Int) (j : Int)).toNat → v = (max (i : Int) (j : Int)).toNat → zGo Γ 243 Q 75 [some (zo 10 0 0), none, none, none, some (zi (iz a)), some (zi (iz (u : Int))), some (zi (iz (v : Int))), some (zi (-1)), some (zi 0), some (zi 0), none] [] M1 := by
      intro u v hu hv
      rw [← hu, ← hv] at h
      have hu7 : u < (SS s 1).toNat := by omega
      have hv7 : v < (SS s 1).toNat := by omega
      have huv : u ≠ v := by omega
      have pfb := pF_b hS (u := u) (v := v) (by omega) (by omega)
      have f0 : pF (SS s) u v 0 = 0 := by
        have : pF (SS s) u v 0 = pG (SS s) u v 0 0 := rfl
        rw [this]
        have key : ∀ i, i = u ∨ i = v → gnb (SS s) (bdP (SS s) u v ((0 : Nat) : Int) ((0 : Nat) : Int)) i = 0 := fun i hi => by
          unfold gnb
          rw [plc_no (fun z => by
            have := (lin_mem _).mp z
            refine this.2 (Or.inr (Or.inr ?_))
            unfold bdP
            rcases hi with e | e
            · rw [e, updB_ne huv, updB_eq]
              rfl
            · rw [e, updB_eq]
              rfl)]
          rfl
        unfold pG
        rw [key u (Or.inl rfl), key v (Or.inr rfl)]
        rfl
      have key := zloop (P := fun k M2 => Off rSc M1 M2 ∧ rB M2 (510 + 260 * s) (SS s) ∧ rMk M2 (SS s 1).toNat (mkS (SS s)) ∧ ∀ q, q < (SS s 1).toNat → q ≠ u → q ≠ v → M2.1 10 0 16 q = iz (bdS (SS s) q)) (G := fun k M2 => zGo Γ 243 Q 75 [some (zo 10 0 0), none, none, none, some (zi (iz a)), some (zi (iz (u : Int))), some (zi (iz (v : Int))), some (zi (iz (if k = 0 then -1 else (((pst (pF (SS s) u v) k).2 : Nat) : Int)))), some (zi (iz (pst (pF (SS s) u v) k).1)), some (zi (iz (k : Int))), none] [] M2) (n := 10000) ?_ ?_ 10000 0 M1 (by omega) ⟨Off.rf M1, hB, hb.tmk, fun q hq _ _ => (hb q hq).1⟩
      · exact key
      · rintro M2 ⟨o2, -, -, -⟩
        have h := h M2 (Kp.ofR (ho.tr o2))
        have pb := pst_b pfb 10000 (by omega)
        refine bk_243_75 ⟨fun _ => ?_, fun q => absurd (by decide) q⟩
        rw [if_neg (by omega), show (iz a = 0) = (a = 0) by rw [iz0, iz_eq (by omega) (by omega) (by omega) (by omega)], show (iz a = 1) = (a = 1) by rw [iz1, iz_eq (by omega) (by omega) (by omega) (by omega)], show (100 : Int32) = iz ((100 : Nat) : Int) from rfl]
        generalize (pst (pF (SS s) u v) 10000).2 = m at *
        have hmod := iz_mod (a := m) (B := 100) (by omega) (by omega) (by omega)
        rw [hmod.1, hmod.2]
        refine ⟨fun z0 => ⟨fun z1 => ⟨by decide, ?_⟩, fun z1 => ⟨by decide, ?_⟩⟩, fun z0 => ?_⟩
        · rw [if_neg z0, if_neg z1] at h
          exact h
        · rw [if_neg z0, if_pos z1] at h
          exact h
        · rw [if_pos z0] at h
          exact h
      · rintro k M2 hk ⟨o2, B2, m2, b2⟩ ih
        have pb := pst_b pfb k (by omega)
        have fb := pfb k hk
        have hmod := iz_mod (a := k) (B := 100) (by omega) (by omega) (by omega)
        refine bk_243_75 ⟨fun q => ?_, fun _ => ⟨by decide, iz_inN (by omega) (by omega), by decide, iz_inN (by omega) (by omega), ?_⟩⟩
        · rw [show (10000 : Int32) = iz 10000 from rfl, iz_le (by omega) (by omega) (by omega) (by omega)] at q
          omega
        rw [show (100 : Int32) = iz ((100 : Nat) : Int) from rfl, hmod.1, hmod.2, iz_clN (show u < 2147483648 by omega), iz_clN (show v < 2147483648 by omega)]
        have B3 : rB (zw (zw M2 10 0 16 u (iz ((k / 100 : Nat) : Int))) 10 0 16 v (iz ((k % 100 : Nat) : Int))) (510 + 260 * s) (SS s) := (B2.w (by omega) (by omega)).w (by omega) (by omega)
        have e14 : (zw (zw M2 10 0 16 u (iz ((k / 100 : Nat) : Int))) 10 0 16 v (iz ((k % 100 : Nat) : Int))).1 10 0 0 14 = iz ((SS s 1).toNat : Int) := by
          rw [B3.2.2.1]
          exact congrArg iz (by omega)
        rw [e14]
        have hr := rngP hS (u := u) (v := v) (x := ((k / 100 : Nat) : Int)) (y := ((k % 100 : Nat) : Int)) (by omega) (by omega)
        have bd3 : rBd (zw (zw M2 10 0 16 u (iz ((k / 100 : Nat) : Int))) 10 0 16 v (iz ((k % 100 : Nat) : Int))) (SS s 1).toNat (bdP (SS s) u v ((k / 100 : Nat) : Int) ((k % 100 : Nat) : Int)) (mkS (SS s)) (fun _ => false) := ((m2.w (by omega)).w (by omega)).tbd (fun q hq => by
          unfold bdP
          by_cases e1 : q = v
          · rw [e1, zw_eq, updB_eq]
          · rw [zw_ne (by omega), updB_ne e1]
            by_cases e2 : q = u
            · rw [e2, zw_eq, updB_eq]
            · rw [zw_ne (by omega), updB_ne e2]
              exact b2 q hq e2 e1)
        refine r_of B3 3 (by omega) rfl ⟨_, rfl, r_laysS hS B3 (by omega) hr bd3 hS.2.2.2.1 (fun M4 o4 L4 => ⟨rfl, ?_⟩)⟩
        have o4' : Off rSc M1 M4 := ((o2.w _ (by unfold rSc; omega)).w _ (by unfold rSc; omega)).tr (o4.wk fun _ _ _ _ => rLy_sc)
        have B4 := B3.off o4 (fun i => rLy_n (by omega) (by omega) (by omega)) (rLy_n (by omega) (by omega) (by omega)) (rLy_n (by omega) (by omega) (by omega)) (rLy_n (by omega) (by omega) (by omega))
        have t4 : M4.1 10 0 0 21 = iz (-1) := (o4'.1 _ _ _ _ (by unfold rSc; omega)).trans ht1
        refine r_gainX hS B4 (by omega) L4 t4 (show u < 7 by omega) ⟨_, rfl, r_gainX hS B4 (by omega) L4 t4 (show v < 7 by omega) ⟨_, rfl, ?_⟩⟩
        have eg : ∀ i, gnS (worS (SS s)) (payB (SS s) (bdP (SS s) u v ((k / 100 : Nat) : Int) ((k % 100 : Nat) : Int)) (mkS (SS s)) (SS s 3) (lin (bdP (SS s) u v ((k / 100 : Nat) : Int) ((k % 100 : Nat) : Int)) (mkS (SS s)) (fun _ => false) (SS s 3) (SS s 1).toNat) (SS s 0).toNat) (plc (lin (bdP (SS s) u v ((k / 100 : Nat) : Int) ((k % 100 : Nat) : Int)) (mkS (SS s)) (fun _ => false) (SS s 3) (SS s 1).toNat) (SS s 0).toNat i) i = gnb (SS s) (bdP (SS s) u v ((k / 100 : Nat) : Int) ((k % 100 : Nat) : Int)) i := fun i => rfl
        have ef : gnb (SS s) (bdP (SS s) u v ((k / 100 : Nat) : Int) ((k % 100 : Nat) : Int)) u + gnb (SS s) (bdP (SS s) u v ((k / 100 : Nat) : Int) ((k % 100 : Nat) : Int)) v = pF (SS s) u v k := rfl
        rw [eg, eg, iz_add, ef, iz_s]
        have nx := ih M4 ⟨o4', B4, fun q hq => ⟨?_, ?_⟩, fun q hq e1 e2 => ?_⟩
        · rw [if_neg (by omega), pst] at nx
          by_cases hk0 : k = 0
          · subst hk0
            have e0 : (pst (pF (SS s) u v) 0).1 = 0 := rfl
            rw [f0, if_neg (by rw [e0]; omega)] at nx
            rw [f0]
            exact ⟨fun _ => nx, fun q => absurd (by rw [if_pos rfl]; decide) q⟩
          · rw [if_neg hk0, iz0, iz_lt (by omega) (by omega) (by omega) (by omega), iz_lt (by omega) (by omega) (by omega) (by omega)]
            refine ⟨fun q => by omega, fun _ => ⟨fun q => ?_, fun q => ?_⟩⟩
            · rw [if_pos q] at nx
              exact nx
            · rw [if_neg q] at nx
              exact nx
        · rw [o4.1 _ _ _ _ (rLy_n (by omega) (by omega) (by omega)), zw_ne (by omega), zw_ne (by omega)]
          exact (m2 q hq).1
        · rw [o4.1 _ _ _ _ (rLy_n (by omega) (by omega) (by omega)), zw_ne (by omega), zw_ne (by omega)]
          exact (m2 q hq).2
        · rw [o4.1 _ _ _ _ (rLy_n (by omega) (by omega) (by omega)), zw_ne (by omega), zw_ne (by omega)]
          exact b2 q hq e1 e2
    rw [iz_le (by omega) (by omega) (by omega) (by omega)]
    refine ⟨fun q => ⟨fun _ => main j i (by omega) (by omega), fun q2 => absurd q q2⟩, fun q => ⟨fun q2 => absurd q2 q, fun _ => main i j (by omega) (by omega)⟩⟩
end Z79
