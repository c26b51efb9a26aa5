/-! day, spent: the calls -/
section Z76
variable {Γ : zC} {Q : zQ} {M : zM} {b ts cnt t : Nat} {S : SB} {SS : Nat → SB} {en : Nat → Int}
theorem c_whoE {j : Nat} (hS : SOK S) (hL : cL M 3 S (S 3) (bdS S) (mkS S) (lnE S en)) (hj : j < 100) (h : Q (some (zi (iz (if j < stE S en then (((lnE S en).getD j 0 : Nat) : Int) else -1)))) M) : zEv Γ 27 [zo 2 3 0, zi (iz (j : Int))] M Q := by
  have h6 := hS.1
  have hlen := lnE_len hS (en := en)
  have hst : stE S en = min (lnE S en).length (S 0).toNat := rfl
  refine en_27 (bk_27_0 ⟨fun q => ?_, fun _ => c_count (nb := (S 0).toNat) hS (by omega) hL (by omega) ⟨_, rfl, ?_⟩⟩)
  · rw [iz0, iz_lt (by omega) (by omega) (by omega) (by omega)] at q
    omega
  · rw [iz_le (by omega) (by omega) (by omega) (by omega)]
    refine ⟨fun q => ?_, fun q => ⟨iz_inN (by omega) (by omega), ?_⟩⟩
    · rw [if_neg (by omega)] at h
      exact h
    · rw [if_pos (by omega)] at h
      rw [iz_clN (by omega), (hL.2.2.2.2.2.1 j (by omega)).1]
      exact h
theorem c_day {x y w : Int32} (hW : cW M cnt SS) (hI : ∀ t, t < 4 → lI M t) (h : ∀ M', Kp M M' → Q (some (zi (iz (fS cnt SS x (fun S => gDay S y w) (-1))))) M') : zEv Γ 133 [zo 9 0 0, zi x, zi y, zi w] M Q := by
  refine en_133 (bk_133_0 (c_saleAt hW (fun q => Or.inl ⟨rfl, ?_⟩) (fun s hs hx => Or.inr ⟨s, rfl, ?_⟩)))
  · have := h M (Kp.rf M)
    rw [fS_out q] at this
    exact this
  · obtain ⟨hC, hS⟩ := hW.2.2 s hs
    have h7 := hS.2.1
    have h6 := hS.1
    rw [fS_in hs hW.2.1 hx] at h
    unfold gDay at h
    obtain ⟨a, ha1, ha2, rfl⟩ := iz_ex y
    obtain ⟨v, hv1, hv2, rfl⟩ := iz_ex w
    rw [iz_toInt ha1 ha2, iz_toInt hv1 hv2] at h
    have bad : ¬ (1 ≤ a ∧ a ≤ 60) → Q (some (zi (-1))) M := fun q => by
      have h2 := h M (Kp.rf M)
      rw [if_neg q] at h2
      exact h2
    rw [show ((iz a) < 1) = (a < 1) by rw [iz1, iz_lt (by omega) (by omega) (by omega) (by omega)], show ((iz a) ≤ 60) = (a ≤ 60) by rw [show (60 : Int32) = iz 60 from rfl, iz_le (by omega) (by omega) (by omega) (by omega)]]
    refine ⟨fun q => bad (by omega), fun q1 => ⟨fun q2 => ?_, fun q2 => bad (by omega)⟩⟩
    rw [if_pos (by omega)] at h
    obtain ⟨d, rfl⟩ : ∃ d : Nat, a = (d : Int) := ⟨a.toNat, by omega⟩
    rw [show ((d : Int).toNat) = d by omega] at h
    rw [hC.1 1 (by omega), show (10 : Int32) = iz 10 from rfl, show (20 : Int32) = iz 20 from rfl]
    refine c_behind (by omega) (by omega) (by omega) ⟨_, rfl, ?_⟩
    rw [hC.1 0 (by omega)]
    refine c_behind (by omega) (by omega) (by omega) ⟨_, rfl, ?_⟩
    rw [show (iz v = 0) = (v = 0) by rw [iz0, iz_eq (by omega) (by omega) (by omega) (by omega)], iz_m1]
    have fin : ∀ (M4 : zM) (r2 r3 : Int), r2 = (if 10 ≤ v ∧ v - 10 < SS s 1 then v - 10 else -1) → r3 = (if 20 ≤ v ∧ v - 20 < SS s 0 then v - 20 else -1) → (v = 0 ∨ r2 ≠ -1 ∨ r3 ≠ -1) → Off oPu M M4 → lI M4 3 → cL M4 3 (SS s) (SS s 3) (bdS (SS s)) (mkS (SS s)) (lnE (SS s) (dyE (SS s) d).2) → cPu M4 (dyE (SS s) d).1 → (¬ v = 0 → ((iz r2 = iz (-1) → (zEv Γ 27 [zo 2 3 0, zi (iz r3)] (M4) (fun o M5 => ∃ r5, o = some (zi r5) ∧ Q (some (zi r5)) (M5)))) ∧ (¬ iz r2 = iz (-1) → (vp_in (iz r2) 7 ∧ Q (some (zi (M4.1 4 0 2 (iz r2).toNatClampNeg))) (M4))))) ∧ (v = 0 → (zEv Γ 31 [zo 2 3 0] (M4) (fun o M6 => ∃ r6, o = some (zi r6) ∧ Q (some (zi r6)) (M6)))) := by
      intro M4 r2 r3 e2 e3 hor o4 i4 L4 p4
      have h := h M4 (Kp.ofP o4 i4)
      refine ⟨fun q => ⟨fun q2 => ?_, fun q2 => ?_⟩, fun q => ?_⟩
      · by_cases z : 10 ≤ v ∧ v - 10 < SS s 1
        · rw [if_pos z] at e2
          rw [e2, iz_eq (by omega) (by omega) (by omega) (by omega)] at q2
          omega
        · rw [if_neg z] at e2
          by_cases z2 : 20 ≤ v ∧ v - 20 < SS s 0
          · rw [if_pos z2] at e3
            rw [if_neg q, if_neg z, if_pos z2] at h
            rw [e3, show v - 20 = (((v - 20).toNat : Nat) : Int) by omega]
            exact c_whoE hS L4 (by omega) ⟨_, rfl, h⟩
          · rw [if_neg z2] at e3
            omega
      · by_cases z : 10 ≤ v ∧ v - 10 < SS s 1
        · rw [if_pos z] at e2
          rw [if_neg q, if_pos z] at h
          rw [e2, iz_cl (by omega) (by omega), p4 _ (by omega), iz_in (by omega) (by omega)]
          exact ⟨by omega, h⟩
        · rw [if_neg z] at e2
          rw [e2] at q2
          exact absurd rfl q2
      · rw [if_pos q] at h
        have hlen := lnE_len hS (en := (dyE (SS s) d).2)
        exact c_allPays (nb := (SS s 0).toNat) hS (by omega) L4 (by omega) (rngS hS) (fun x hx => (lnE_lt hx).1) hS.2.2.2.1 (fun x hx => (lnE_lt hx).2) ⟨_, rfl, h⟩
    refine ⟨fun q => c_sellFor hS hC (hI 3 (by omega)) (by omega) (fun M4 o4 i4 L4 e4 p4 => ⟨rfl, fin M4 _ _ rfl rfl (Or.inl q) o4 i4 L4 p4⟩), fun q => ⟨fun q2 => c_sellFor hS hC (hI 3 (by omega)) (by omega) (fun M4 o4 i4 L4 e4 p4 => ⟨rfl, fin M4 _ _ rfl rfl (Or.inr (Or.inl ?_)) o4 i4 L4 p4⟩), fun q2 => ⟨fun q3 => c_sellFor hS hC (hI 3 (by omega)) (by omega) (fun M4 o4 i4 L4 e4 p4 => ⟨rfl, fin M4 _ _ rfl rfl (Or.inr (Or.inr ?_)) o4 i4 L4 p4⟩), fun q3 => ?_⟩⟩⟩
    · exact fun z => q2 (by rw [z])
    · exact fun z => q3 (by rw [z])
    · have h2 := h M (Kp.rf M)
      rw [if_neg q] at h2
      by_cases z : 10 ≤ v ∧ v - 10 < SS s 1
      · rw [if_pos z, iz_eq (by omega) (by omega) (by omega) (by omega)] at q2
        omega
      · by_cases z2 : 20 ≤ v ∧ v - 20 < SS s 0
        · rw [if_pos z2, iz_eq (by omega) (by omega) (by omega) (by omega)] at q3
          omega
        · rw [if_neg z, if_neg z2] at h2
          exact h2
theorem c_spent {x y : Int32} (hW : cW M cnt SS) (hI : ∀ t, t < 4 → lI M t) (h : ∀ M', Kp M M' → Q (some (zi (iz (fS cnt SS x (fun S => gSpent S y) (-1))))) M') : zEv Γ 134 [zo 9 0 0, zi x, zi y] M Q := by
  refine en_134 (bk_134_0 (c_saleAt hW (fun q => Or.inl ⟨rfl, ?_⟩) (fun s hs hx => Or.inr ⟨s, rfl, ?_⟩)))
  · have := h M (Kp.rf M)
    rw [fS_out q] at this
    exact this
  · obtain ⟨hC, hS⟩ := hW.2.2 s hs
    have h7 := hS.2.1
    rw [fS_in hs hW.2.1 hx] at h
    unfold gSpent at h
    refine c_hasBidder hS hC (fun q => ⟨_, rfl, fun q' => absurd rfl q', fun _ => ?_⟩) (fun i hi hy => ⟨_, rfl, fun _ => ?_, fun q' => absurd q' (by decide)⟩)
    · have h2 := h M (Kp.rf M)
      rw [if_neg (by omega)] at h2
      exact h2
    · subst hy
      rw [iz_toInt (by omega) (by omega), if_pos (by omega), show ((i : Int).toNat) = i by omega] at h
      refine c_sellFor (d := 60) hS hC (hI 3 (by omega)) (by omega) (fun M4 o4 i4 L4 e4 p4 => ⟨rfl, iz_inN (by omega) (by omega), ?_⟩)
      rw [iz_clN (by omega), e4 i (by omega)]
      exact h M4 (Kp.ofP o4 i4)
theorem r_day {x y w : Int32} (hW : rW M cnt SS) (h : ∀ M', Kp M M' → Q (some (zi (iz (fS cnt SS x (fun S => gDay S y w) (-1))))) M') : zEv Γ 229 [zo 10 0 0, zi x, zi y, zi w] M Q := by
  refine en_229 (bk_229_0 (r_takesSale hW (fun q => ⟨_, rfl, fun _ => ?_, fun q' => absurd rfl q'⟩) (fun s n M1 hs hx hn ho hB hb => ⟨_, rfl, fun q' => absurd q' (by decide), fun _ => ?_⟩)))
  · have := h M (Kp.rf M)
    rw [fS_out q] at this
    exact this
  · have hS := (hW.2.2 s hs).2
    have h7 := hS.2.1
    have h6 := hS.1
    have en : n = (SS s 1).toNat := by omega
    subst en
    rw [fS_in hs hW.2.1 hx] at h
    unfold gDay at h
    obtain ⟨a, ha1, ha2, rfl⟩ := iz_ex y
    obtain ⟨v, hv1, hv2, rfl⟩ := iz_ex w
    rw [iz_toInt ha1 ha2, iz_toInt hv1 hv2] at h
    refine r_isIn (lo := 1) (hi := 60) (by omega) (by omega) (by omega) (fun q3 q4 => ⟨_, rfl, fun _ => ?_, fun q' => absurd q' (by decide)⟩) (fun q3 => ⟨_, rfl, fun q' => absurd rfl q', fun _ => ?_⟩)
    · rw [if_pos (by omega)] at h
      obtain ⟨d, rfl⟩ : ∃ d : Nat, a = (d : Int) := ⟨a.toNat, by omega⟩
      rw [show ((d : Int).toNat) = d by omega] at h
      have hlen := lnE_len hS (en := (dyE (SS s) d).2)
      refine r_daysNow hS hB hb (by omega) (fun M2 o2 l2 y2 p2 => ⟨rfl, ?_⟩)
      have B2 := hB.dy o2
      have h := h M2 (Kp.ofR (ho.tr (o2.wk fun _ _ _ _ => oDy_sc)))
      rw [B2.2.2.1, show (9 : Int32) = iz 9 from rfl, iz_add, show (10 : Int32) = iz 10 from rfl, show (19 : Int32) = iz 19 from rfl, show (20 : Int32) = iz 20 from rfl, iz_sub, iz_sub, show (iz v = 0) = (v = 0) by rw [iz0, iz_eq (by omega) (by omega) (by omega) (by omega)]]
      refine r_isIn (by omega) (by omega) (by omega) (fun q1 q2 => ⟨_, rfl, fun z => absurd z (by decide), fun _ => ?_⟩) (fun q => ⟨_, rfl, fun _ => ?_, fun z => absurd rfl z⟩)
      · rw [if_neg (by omega), if_pos (by omega)] at h
        rw [iz_cl (by omega) (by omega), (p2 _ (by omega)).1, iz_in (by omega) (by omega)]
        exact ⟨by omega, h⟩
      · rw [B2.2.1, iz_add]
        refine r_isIn (by omega) (by omega) (by omega) (fun q1 q2 => ⟨_, rfl, fun z => absurd z (by decide), fun _ => ?_⟩) (fun q1 => ⟨_, rfl, fun _ => ⟨fun q2 => ?_, fun q2 => ?_⟩, fun z => absurd rfl z⟩)
        · rw [if_neg (by omega), if_neg (by omega), if_pos (by omega)] at h
          have hst : stE (SS s) (dyE (SS s) d).2 = min (lnE (SS s) (dyE (SS s) d).2).length (SS s 0).toNat := rfl
          rw [l2.1, iz_le (by omega) (by omega) (by omega) (by omega)]
          refine ⟨fun z => ?_, fun z => ?_⟩
          · rw [if_neg (by omega)] at h
            exact h
          · rw [if_pos (by omega)] at h
            rw [iz_cl (by omega) (by omega), l2.2 _ (by omega), iz_in (by omega) (by omega)]
            exact ⟨by omega, h⟩
        · rw [if_neg q2, if_neg (by omega), if_neg (by omega)] at h
          exact h
        · rw [if_pos q2] at h
          exact r_takeNow (nb := (SS s 0).toNat) hS (by omega) B2 y2 ⟨_, rfl, h⟩
    · have h2 := h M1 (Kp.ofR ho)
      rw [if_neg (by omega)] at h2
      exact h2
theorem r_spent {x y : Int32} (hW : rW M cnt SS) (h : ∀ M', Kp M M' → Q (some (zi (iz (fS cnt SS x (fun S => gSpent S y) (-1))))) M') : zEv Γ 230 [zo 10 0 0, zi x, zi y] M Q := by
  refine en_230 (bk_230_0 (r_takesSale hW (fun q => ⟨_, rfl, fun _ => ?_, fun q' => absurd rfl q'⟩) (fun s n M1 hs hx hn ho hB hb => ⟨_, rfl, fun q' => absurd q' (by decide), fun _ => ?_⟩)))
  · have := h M (Kp.rf M)
    rw [fS_out q] at this
    exact this
  · have hS := (hW.2.2 s hs).2
    have h7 := hS.2.1
    have en : n = (SS s 1).toNat := by omega
    subst en
    rw [fS_in hs hW.2.1 hx] at h
    unfold gSpent at h
    refine r_isBidder hS hB (fun q => ⟨_, rfl, fun q' => absurd rfl q', fun _ => ?_⟩) (fun i hi hy => ⟨_, rfl, fun _ => ?_, fun q' => absurd q' (by decide)⟩)
    · have h2 := h M1 (Kp.ofR ho)
      rw [if_neg (by omega)] at h2
      exact h2
    · subst hy
      rw [iz_toInt (by omega) (by omega), if_pos (by omega), show ((i : Int).toNat) = i by omega] at h
      refine r_daysNow (d := 60) hS hB hb (by omega) (fun M2 o2 l2 y2 p2 => ⟨rfl, iz_inN (by omega) (by omega), ?_⟩)
      rw [iz_clN (by omega), (p2 i (by omega)).2]
      exact h M2 (Kp.ofR (ho.tr (o2.wk fun _ _ _ _ => oDy_sc)))
end Z76
