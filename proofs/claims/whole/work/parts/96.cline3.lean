section Z96
variable {Γ : zC} {Q : zQ} {M : zM} {tp : Nat → Int} {n m : Nat} {ρ : RP} {T R : SB}
theorem c_readBoard {at_ : Int} (hw : ρ.1 = false) (hL : cRL M tp n m ρ T R) (hat : ρ.2.2.1 ≠ 0 → (ρ.2.2.2 < at_ ∨ (ρ.2.2.2 = at_ ∧ ρ.2.2.1 ≤ 3))) (hlt : at_ < ((tkW tp n ρ.2.1 : Nat) : Int)) (h : ∀ (M' : zM) (T' : SB), Off oL M M' → cRL M' tp n m (finS tp n (boS tp n ρ R at_).1) T' (boS tp n ρ R at_).2 → Q none M') : zEv Γ 71 [zo 5 0 0, zi (iz at_)] M Q := by
  obtain ⟨hR, hB, hC, hW, hE⟩ := hL
  have t0 : 0 ≤ T 0 ∧ T 0 ≤ 6 := hW.r (by omega) ⟨rfl, rfl⟩
  obtain ⟨b, hb⟩ := Int.eq_ofNat_of_zero_le t0.1
  have hm := hR.1.2.2.2.2.1
  have pB0 : pB tp n (full ρ (R 0 = 6) at_) := pB_full hB hlt
  have pBb : pB tp n (boS tp n ρ R at_).1 := by
    unfold boS
    split
    · exact pB_nu pB0
    · dsimp only
      split
      · next hc =>
        have k2 := nuS_g hc.1
        have k1 := nu_k1 hc.1
        refine pB_al (pB_nu hB) ?_
        rw [k2.2.1]
        have := W_lt (tp := tp) (n := n) (k := ρ.2.1) (by omega)
        show ((tkW tp n ρ.2.1 : Nat) : Int) < ((tkW tp n (ρ.2.1 + 1) : Nat) : Int)
        omega
      · exact pB_nu hB
  have tail : ∀ (M2 : zM) (v : Int), Off oC M M2 → cR M2 tp n m (boS tp n ρ R at_).1 → -1 ≤ v → v ≤ 9999 → ((boS tp n ρ R at_).1.1 = false → (boS tp n ρ R at_).1.2.2.1 = 0 → T = R ∧ R 0 ≠ 6 ∧ 0 ≤ v ∧ v ≤ 99 ∧ (0 < b → v ≤ T (4 + (b - 1))) ∧ (boS tp n ρ R at_).2 = upS (upS R (4 + (R 0).toNat) v) 0 (R 0 + 1)) → zGo Γ 71 Q 73 [some (zo 5 0 0), none, none, some (zi (iz v))] [] M2 := by
    intro M2 v o2 R2 v1 v2 g
    refine bk_71_73 (c_stop R2 (fun M3 o3 R3 f3 => h M3 T (oC_L (o2.tr o3)) (badL hC hW (o2.tr o3) R3 f3 pBb)) (fun M3 o3 R3 z3 f3 e3 => ?_))
    obtain ⟨eT, h6, g1, g2, g3, g4⟩ := g z3 f3
    subst eT
    have hC3 := cS_oc hC (o2.tr o3)
    have e0 : M3.1 7 12 0 0 = iz (b : Int) := by rw [hC3.1 0 (by omega), hb]
    have e0' : (zw M3 7 12 5 b (iz v)).1 7 12 0 0 = iz (b : Int) := (zw_ne (by omega)).trans e0
    rw [g4, hb, show ((b : Int)).toNat = b by omega] at h
    rw [e0, show (6 : Int32) = iz 6 from rfl, iz_le (by omega) (by omega) (by omega) (by omega), iz_clN (by omega), e0', iz1, iz_add]
    refine ⟨fun z => by omega, fun z => ⟨iz_inN (by omega) (by omega), h _ _ (((oC_L (o2.tr o3)).w _ (Or.inr ⟨rfl, rfl⟩)).w _ (Or.inr ⟨rfl, rfl⟩)) ⟨cR_w7 (cR_w7 R3), pB_fin pBb, cS_f (cS_5 hC3 (by omega)) (by omega), WK_board hW hb (by omega) ⟨g1, g2⟩ g3, fun _ _ => rfl⟩⟩⟩
  have mid : ∀ (M0 : zM), Off oC M M0 → cR M0 tp n m (full ρ (R 0 = 6) at_) → (vp_in (M0.1 5 0 0 8) 501 ∧ (zEv Γ 83 [zo 5 0 0, zi (0 : Int32), zi (99 : Int32)] M0 (fun o M1 => ∃ r1, o = some (zi r1) ∧ (((M1.1 7 12 0 0) ≤ 0 → zGo Γ 71 Q 73 [some (zo 5 0 0), none, none, some (zi r1)] [] M1) ∧ (¬ (M1.1 7 12 0 0) ≤ 0 → (vp_in ((M1.1 7 12 0 0) - (1 : Int32)) 6 ∧ ((r1 ≤ (M1.1 7 12 5 (((M1.1 7 12 0 0) - (1 : Int32))).toNatClampNeg) → zGo Γ 71 Q 73 [some (zo 5 0 0), none, none, some (zi r1)] [] M1) ∧ (¬ r1 ≤ (M1.1 7 12 5 (((M1.1 7 12 0 0) - (1 : Int32))).toNatClampNeg) → (zEv Γ 86 [zo 5 0 0, zi (4 : Int32), zi (M0.1 5 0 6 ((M0.1 5 0 0 8)).toNatClampNeg)] M1 (fun o M2 => o = none ∧ zGo Γ 71 Q 73 [some (zo 5 0 0), none, none, some (zi r1)] [] M2)))))))))) := by
    intro M0 o0 R0
    obtain ⟨a, ham, ha8, hak⟩ := R0.2.1
    refine ⟨by rw [ha8]; exact iz_inN (by omega) (by omega), ?_⟩
    refine c_takeNumber (la := 0) (ha := 99) (lo := 0) (hi := 99) R0 pB0 (by omega) (by omega) (fun _ _ => ⟨rfl, rfl⟩) (fun M1 v o1 R1 v1 v2 g => ⟨_, rfl, ?_⟩)
    have hC1 := cS_oc hC (o0.tr o1)
    have e0 : M1.1 7 12 0 0 = iz (b : Int) := by rw [hC1.1 0 (by omega), hb]
    rw [e0, ha8, iz_clN (by omega), R0.1.2.1 a ham, show ((iz (b : Int)) ≤ 0) = ((b : Int) ≤ 0) by rw [iz0, iz_le (by omega) (by omega) (by omega) (by omega)], iz1, iz_sub]
    by_cases c1 : (nuS tp n (full ρ (R 0 = 6) at_) 0 99).1.1 = false ∧ (nuS tp n (full ρ (R 0 = 6) at_) 0 99).1.2.2.1 = 0
    · have q1 := nu_0 c1.1 c1.2
      have ev := (g c1.1 c1.2).2
      have qf := full_0 hw hat q1.2.1
      rw [qf.2.2] at q1 ev c1 R1 hak
      have eT := hE hw qf.1
      subst eT
      have eB : boS tp n ρ T at_ = ((if (nuS tp n ρ 0 99).2.1 = true ∧ 0 < T 0 ∧ T (4 + ((T 0).toNat - 1)) < (nuS tp n ρ 0 99).2.2 then alS (nuS tp n ρ 0 99).1 4 ((tkW tp n ρ.2.1 : Nat) : Int) else (nuS tp n ρ 0 99).1), upS (upS T (4 + (T 0).toNat) (nuS tp n ρ 0 99).2.2) 0 (T 0 + 1)) := by
        unfold boS
        rw [qf.2.2, if_neg]
        rintro (z | z)
        · rw [c1.1] at z
          cases z
        · exact qf.2.1 z
      have tb : T (4 + ((T 0).toNat - 1)) = T (4 + (b - 1)) := by rw [hb, show ((b : Int)).toNat = b by omega]
      have vb := q1.2.2.2.2.2
      have fin : ¬ (0 < b ∧ T (4 + (b - 1)) < v) → zGo Γ 71 Q 73 [some (zo 5 0 0), none, none, some (zi (iz v))] [] M1 := fun hc => by
        have eB1 : boS tp n ρ T at_ = ((nuS tp n ρ 0 99).1, upS (upS T (4 + (T 0).toNat) v) 0 (T 0 + 1)) := by
          rw [eB, tb, ← ev, if_neg (by rintro ⟨_, z1, z2⟩; exact hc ⟨by omega, z2⟩)]
        refine tail M1 v (o0.tr o1) (by rw [eB1]; exact R1) v1 v2 (fun _ _ => ⟨rfl, qf.2.1, by omega, by omega, fun z => by omega, by rw [eB1]⟩)
      refine ⟨fun z => fin (by omega), fun z => ?_⟩
      rw [show (b : Int) - 1 = ((b - 1 : Nat) : Int) by omega, iz_clN (by omega), hC1.2.1 (b - 1) (by omega)]
      have pb := hW.r (k := 4 + (b - 1)) (by omega) (lh3 (by omega))
      rw [iz_le (by omega) (by omega) (by omega) (by omega)]
      refine ⟨iz_inN (by omega) (by omega), fun z2 => fin (by omega), fun z2 => ?_⟩
      rw [hak q1.1]
      refine c_note (kd := 4) R1 (by omega) (fun _ y => absurd c1.2 y) (fun M2 o2 R2 => ⟨rfl, ?_⟩)
      have eB1 : (boS tp n ρ T at_).1 = alS (nuS tp n ρ 0 99).1 4 ((tkW tp n ρ.2.1 : Nat) : Int) := by
        rw [eB, tb, ← ev, if_pos ⟨q1.2.2.1, by omega, by omega⟩]
      refine tail M2 v ((o0.tr o1).tr o2) (by rw [eB1]; exact R2) v1 v2 (fun _ y => ?_)
      rw [eB1, alS_0 c1.1 c1.2] at y
      exact absurd y (by show ¬ (4 : Int) = 0; omega)
    · have f1 : (nuS tp n (full ρ (R 0 = 6) at_) 0 99).1.2.2.1 ≠ 0 := fun z => by
        cases hc : (nuS tp n (full ρ (R 0 = 6) at_) 0 99).1.1 with
        | true =>
          have := R1.2.2.2.2.mp hc
          omega
        | false => exact c1 ⟨hc, z⟩
      have eB : (boS tp n ρ R at_).1 = (nuS tp n (full ρ (R 0 = 6) at_) 0 99).1 := by
        unfold boS
        split
        · rfl
        · next hc =>
          have h6 : ¬ R 0 = 6 := fun z => hc (Or.inr z)
          have ef : full ρ (R 0 = 6) at_ = ρ := by unfold full; rw [if_neg h6]
          rw [ef] at f1 ⊢
          dsimp only
          split
          · next hg =>
            have k2 := nuS_g hg.1
            rw [k2.2.1] at f1 ⊢
            exact alS_f f1 (Or.inl (hB hw f1))
          · rfl
      have nv : zGo Γ 71 Q 73 [some (zo 5 0 0), none, none, some (zi (iz v))] [] M1 := tail M1 v (o0.tr o1) (by rw [eB]; exact R1) v1 v2 (fun _ z => by rw [eB] at z; exact absurd z f1)
      refine ⟨fun _ => nv, fun z => ⟨?_, fun _ => nv, fun _ => c_note0 R1 f1 ⟨rfl, nv⟩⟩⟩
      rw [show (b : Int) - 1 = ((b - 1 : Nat) : Int) by omega]
      exact iz_inN (by omega) (by omega)
  have cf := c_full (b := R 0 = 6) (b' := ¬ (b : Int) < 6) hw hR hat (fun f0 => by
    have := hE hw f0
    rw [← this, hb]
    omega)
  refine en_71 (bk_71_0 ?_)
  rw [hC.1 0 (by omega), hb, show (iz (b : Int) < 6) = ((b : Int) < 6) by rw [show (6 : Int32) = iz 6 from rfl, iz_lt (by omega) (by omega) (by omega) (by omega)]]
  refine ⟨fun q => mid M (Off.rf M) (cf.1 (fun z => z q)), fun q => ?_⟩
  refine c_note (kd := 3) hR (by omega) (fun _ z => hat z) (fun M3 o3 R3 => ⟨rfl, mid M3 o3 ?_⟩)
  rw [← cf.2 q]
  exact R3
theorem c_readBidder {at_ : Int} (hw : ρ.1 = false) (hL : cRL M tp n m ρ T R) (hat : ρ.2.2.1 ≠ 0 → (ρ.2.2.2 < at_ ∨ (ρ.2.2.2 = at_ ∧ ρ.2.2.1 ≤ 3))) (hlt : at_ < ((tkW tp n ρ.2.1 : Nat) : Int)) (h : ∀ (M' : zM) (T' : SB), Off oL M M' → cRL M' tp n m (finS tp n (biS tp n ρ R at_).1) T' (biS tp n ρ R at_).2 → Q none M') : zEv Γ 72 [zo 5 0 0, zi (iz at_)] M Q := by
  obtain ⟨hR, hB, hC, hW, hE⟩ := hL
  have t1 : 0 ≤ T 1 ∧ T 1 ≤ 7 := hW.r (by omega) ⟨rfl, rfl⟩
  obtain ⟨b, hb⟩ := Int.eq_ofNat_of_zero_le t1.1
  have pB0 : pB tp n (full ρ (R 1 = 7) at_) := pB_full hB hlt
  have eB : (biS tp n ρ R at_).1 = (nuS tp n (nuS tp n (full ρ (R 1 = 7) at_) 0 99).1 0 99).1 := by
    unfold biS
    split
    · rfl
    · next hc =>
      have h6 : ¬ R 1 = 7 := fun z => hc (Or.inr z)
      have ef : full ρ (R 1 = 7) at_ = ρ := by unfold full; rw [if_neg h6]
      rw [ef]
  rw [eB] at h
  have mid : ∀ (M0 : zM), Off oC M M0 → cR M0 tp n m (full ρ (R 1 = 7) at_) → (zEv Γ 83 [zo 5 0 0, zi (0 : Int32), zi (99 : Int32)] M0 (fun o M1 => ∃ r1, o = some (zi r1) ∧ (zEv Γ 83 [zo 5 0 0, zi (0 : Int32), zi (99 : Int32)] M1 (fun o M2 => ∃ r2, o = some (zi r2) ∧ (zEv Γ 84 [zo 5 0 0] M2 (fun o M3 => o = none ∧ ((¬ (M3.1 5 0 0 1) = 0 → Q none M3) ∧ ((M3.1 5 0 0 1) = 0 → (((7 : Int32) ≤ (M3.1 7 12 0 1) → Q none M3) ∧ (¬ (7 : Int32) ≤ (M3.1 7 12 0 1) → (vp_in (M3.1 7 12 0 1) 7 ∧ (vp_in ((zw M3 7 12 7 ((M3.1 7 12 0 1)).toNatClampNeg r1).1 7 12 0 1) 7 ∧ Q none (zw (zw (zw M3 7 12 7 ((M3.1 7 12 0 1)).toNatClampNeg r1) 7 12 8 (((zw M3 7 12 7 ((M3.1 7 12 0 1)).toNatClampNeg r1).1 7 12 0 1)).toNatClampNeg r2) 7 12 0 1 (((zw (zw M3 7 12 7 ((M3.1 7 12 0 1)).toNatClampNeg r1) 7 12 8 (((zw M3 7 12 7 ((M3.1 7 12 0 1)).toNatClampNeg r1).1 7 12 0 1)).toNatClampNeg r2).1 7 12 0 1) + (1 : Int32))))))))))))))) := by
    intro M0 o0 R0
    refine c_takeNumber (la := 0) (ha := 99) (lo := 0) (hi := 99) R0 pB0 (by omega) (by omega) (fun _ _ => ⟨rfl, rfl⟩) (fun M1 v o1 R1 v1 v2 g => ⟨_, rfl, ?_⟩)
    refine c_takeNumber (la := 0) (ha := 99) (lo := 0) (hi := 99) R1 (pB_nu pB0) (by omega) (by omega) (fun _ _ => ⟨rfl, rfl⟩) (fun M2 w o2 R2 w1 w2 g2 => ⟨_, rfl, ?_⟩)
    have o12 := (o0.tr o1).tr o2
    refine c_stop R2 (fun M3 o3 R3 f3 => h M3 T (oC_L (o12.tr o3)) (badL hC hW (o12.tr o3) R3 f3 (pB_nu (pB_nu pB0)))) (fun M3 o3 R3 z3 f3 e3 => ?_)
    have q2 := nu_0 z3 f3
    have ew := (g2 z3 f3).2
    have q1 := nu_0 q2.1 q2.2.1
    have ev := (g q2.1 q2.2.1).2
    have qf := full_0 hw hat q1.2.1
    have eT := hE hw qf.1
    subst eT
    have hC3 := cS_oc hC (o12.tr o3)
    rw [qf.2.2] at q2 ew q1 ev z3 h R3
    have eB2 : (biS tp n ρ T at_).2 = upS (upS (upS T (10 + b) v) (17 + b) w) 1 ((b : Int) + 1) := by
      unfold biS
      rw [qf.2.2, if_neg, hb, show ((b : Int)).toNat = b by omega, ← ev, ← ew]
      rintro (z | z)
      · rw [z3] at z
        cases z
      · exact qf.2.1 z
    rw [eB2] at h
    have h7 := qf.2.1
    have e0 : M3.1 7 12 0 1 = iz (b : Int) := by rw [hC3.1 1 (by omega), hb]
    have e1 : (zw M3 7 12 7 b (iz v)).1 7 12 0 1 = iz (b : Int) := (zw_ne (by omega)).trans e0
    have e2 : (zw (zw M3 7 12 7 b (iz v)) 7 12 8 b (iz w)).1 7 12 0 1 = iz (b : Int) := (zw_ne (by omega)).trans e1
    rw [e0, show (7 : Int32) = iz 7 from rfl, iz_le (by omega) (by omega) (by omega) (by omega), iz_clN (by omega), e1, iz_clN (by omega), e2, iz1, iz_add]
    have vb := q1.2.2.2.2.2
    have wb := q2.2.2.2.2.2
    refine ⟨fun z => by omega, fun z => ⟨iz_inN (by omega) (by omega), iz_inN (by omega) (by omega), h _ _ ((((oC_L (o12.tr o3)).w _ (Or.inr ⟨rfl, rfl⟩)).w _ (Or.inr ⟨rfl, rfl⟩)).w _ (Or.inr ⟨rfl, rfl⟩)) ⟨cR_w7 (cR_w7 (cR_w7 R3)), pB_fin (pB_nu (pB_nu hB)), cS_f (cS_8 (cS_7 hC3 (by omega)) (by omega)) (by omega), ?_, fun _ _ => rfl⟩⟩⟩
    exact WK_up (a := 0) (b := 7) (WK_up (WK_up hW (by omega) (lh3 (by omega)) (by omega)) (by omega) (lh3 (by omega)) (by omega)) (by omega) ⟨rfl, rfl⟩ (by omega)
  have cf := c_full (b := R 1 = 7) (b' := ¬ (b : Int) < 7) hw hR hat (fun f0 => by
    have := hE hw f0
    rw [← this, hb]
    omega)
  refine en_72 (bk_72_0 ?_)
  rw [hC.1 1 (by omega), hb, show (iz (b : Int) < 7) = ((b : Int) < 7) by rw [show (7 : Int32) = iz 7 from rfl, iz_lt (by omega) (by omega) (by omega) (by omega)]]
  refine ⟨fun q => mid M (Off.rf M) (cf.1 (fun z => z q)), fun q => ?_⟩
  refine c_note (kd := 3) hR (by omega) (fun _ z => hat z) (fun M3 o3 R3 => ⟨rfl, mid M3 o3 ?_⟩)
  rw [← cf.2 q]
  exact R3
end Z96
