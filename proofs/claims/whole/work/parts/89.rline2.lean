/-! the reference's lines -/
def soS (tp : Nat → Int) (n : Nat) (ρ : RP) (R : SB) (at_ : Int) : RP × SB :=
  let a := oneS tp n ρ R
  let v := nuS tp n a.1 0 99
  let c := nuS tp n v.1 1 9
  if c.1.1 = true ∨ ¬ a.2.1 = true then (c.1, R)
  else if R (80 + a.2.2.toNat) = 3 then (alS c.1 3 at_, R)
  else (c.1, upS (upS (upS R (87 + 6 * a.2.2.toNat + 2 * (R (80 + a.2.2.toNat)).toNat) v.2.2) (88 + 6 * a.2.2.toNat + 2 * (R (80 + a.2.2.toNat)).toNat) c.2.2) (80 + a.2.2.toNat) (R (80 + a.2.2.toNat) + 1))
theorem upS_e {R : SB} {k : Nat} {v : Int} : upS R k v k = v := by unfold upS; rw [if_pos rfl]
theorem upS_n {R : SB} {k j : Nat} {v : Int} (h : j ≠ k) : upS R k v j = R j := by unfold upS; rw [if_neg h]
section Z89
variable {Γ : zC} {Q : zQ} {M : zM} {tp : Nat → Int} {n : Nat} {ρ : RP} {R : SB}
def oRl (c t f i : Nat) : Prop := c = 10 ∧ t = 0 ∧ (f = 0 ∧ (3 ≤ i ∧ i ≤ 8 ∨ i = 11) ∨ f = 1 ∧ (i = 2 ∨ i = 3) ∨ f = 11)
theorem oRd_rl {c t f i : Nat} (h : oRd c t f i) : oRl c t f i := by
  unfold oRd at h
  unfold oRl
  omega
theorem r_aBoard {at_ : Int} (hR : rSt M tp n ρ) (hw : ρ.1 = false) (hr : rRd M R) (hB : RB R) (ha : -1 ≤ at_ ∧ at_ ≤ 500) (h : ∀ M', Off oRl M M' → rSt M' tp n (boS tp n ρ R at_).1 → rRd M' (boS tp n ρ R at_).2 → Q none M') : zEv Γ 171 [zo 10 0 0, zi (iz at_)] M Q := by
  have h0 := hB.1
  have i0 : vp_in 0 240 := by unfold vp_in; decide
  have hn := hR.1.2.1
  have hs := tkW_le (tp := tp) (n := n) (k := ρ.2.1)
  have r0 : ∀ {M2 : zM}, rRd M2 R → M2.1 10 0 11 (0 : Int32).toNatClampNeg = iz (R 0) := fun hr => hr 0 (by omega)
  unfold boS at h
  have fin : ∀ (M2 : zM) (ρ2 : RP) (v : Int), ¬ R 0 = 6 → Off oRl M M2 → rSt M2 tp n ρ2 → rRd M2 R → (∀ M', Off oRl M M' → rSt M' tp n ρ2 → rRd M' (upS (upS R (4 + (R 0).toNat) v) 0 (R 0 + 1)) → Q none M') → zGo Γ 171 Q 90 [some (zo 10 0 0), none, none, some (zi (iz v))] [] M2 := by
    intro M2 ρ2 v h6 o2 R2 d2 hq
    refine bk_171_90 ⟨i0, ?_⟩
    rw [r0 d2, show (4 : Int32) = iz 4 from rfl, iz_add, show (4 : Int) + R 0 = ((4 + (R 0).toNat : Nat) : Int) by omega, iz_clN (by omega)]
    have e0 : (zw M2 10 0 11 (4 + (R 0).toNat) (iz v)).1 10 0 11 (0 : Int32).toNatClampNeg = iz (R 0) := (zw_ne (by intro z; have := z.2.2.2; revert this; show ¬ (0 = 4 + (R 0).toNat); omega)).trans (r0 d2)
    rw [e0, iz1, iz_add]
    exact ⟨iz_inN (by omega) (by omega), i0, i0, hq _ ((o2.w _ (by unfold oRl; omega)).w _ (by unfold oRl; omega)) R2.w.w ((d2.w (by omega)).w (k := 0) (by omega))⟩
  refine en_171 (bk_171_0 ⟨i0, ?_⟩)
  rw [r0 hr, show (iz (R 0) = 6) = (R 0 = 6) by rw [show (6 : Int32) = iz 6 from rfl, iz_eq (by omega) (by omega) (by omega) (by omega)]]
  refine ⟨fun q6 => ?_, fun q6 => ?_⟩
  · have ef : full ρ (R 0 = 6) at_ = ρ := by unfold full; rw [if_neg q6]
    rw [ef] at h
    refine r_numbered (lo := 0) (hi := 99) hR (by omega) (by omega) (fun M1 o1 R1 g1 => ⟨_, rfl, ?_⟩)
    have d1 := hr.rd o1
    have o1' : Off oRl M M1 := o1.wk fun _ _ _ _ => oRd_rl
    have vb := nuS_v (tp := tp) (n := n) (ρ := ρ) (lo := 0) (hi := 99) (by omega)
    rw [R1.2.1, g1]
    cases hw1 : (nuS tp n ρ 0 99).1.1 with
    | true =>
      rw [if_pos (Or.inl hw1)] at h
      exact ⟨fun _ => bk_171_48 (h M1 o1' R1 d1), fun z => absurd z (by decide)⟩
    | false =>
      rw [if_neg (by rintro (z | z); rw [hw1] at z; cases z; exact q6 z)] at h
      refine ⟨fun z => absurd rfl z, fun _ => ⟨i0, ?_⟩⟩
      rw [r0 d1, show (iz (R 0) = 6) = (R 0 = 6) by rw [show (6 : Int32) = iz 6 from rfl, iz_eq (by omega) (by omega) (by omega) (by omega)]]
      refine ⟨fun _ => ?_, fun z => absurd z q6⟩
      cases hg : (nuS tp n ρ 0 99).2.1 with
      | false =>
        rw [if_neg (by rw [hg]; simp)] at h
        exact ⟨fun _ => fin M1 _ _ q6 o1' R1 d1 h, fun z => absurd rfl z⟩
      | true =>
        refine ⟨fun z => absurd z (by decide), fun _ => ⟨i0, ?_⟩⟩
        rw [show (iz (R 0) ≤ 0) = (R 0 ≤ 0) by rw [iz0, iz_le (by omega) (by omega) (by omega) (by omega)]]
        refine ⟨fun z => ?_, fun z => ⟨i0, ?_⟩⟩
        · rw [if_neg (by rintro ⟨_, y, _⟩; omega)] at h
          exact fin M1 _ _ q6 o1' R1 d1 h
        · have hpb := hB.2.2.1 ((R 0).toNat - 1) (by omega)
          rw [show (4 : Int32) = iz 4 from rfl, iz_add, iz1, iz_sub, show (4 : Int) + R 0 - 1 = ((4 + ((R 0).toNat - 1) : Nat) : Int) by omega, iz_clN (by omega), d1 _ (by omega), iz_le (by omega) (by omega) (by omega) (by omega)]
          refine ⟨iz_inN (by omega) (by omega), fun y => ?_, fun y => ?_⟩
          · rw [if_neg (by rintro ⟨_, _, x⟩; omega)] at h
            exact fin M1 _ _ q6 o1' R1 d1 h
          · rw [if_pos ⟨hg, by omega, by omega⟩] at h
            rw [(hR.2.2.2.2 hw).1]
            refine r_also (kd := 4) R1 (by omega) (by omega) (fun M2 o2 R2 => ⟨rfl, ?_⟩)
            exact fin M2 _ _ q6 (o1'.tr (o2.wk fun _ _ _ _ z => oRd_rl (oEn_rd z))) R2 (d1.en o2) h
  · have ef : full ρ (R 0 = 6) at_ = alS ρ 3 at_ := by unfold full; rw [if_pos q6]
    rw [ef, if_pos (Or.inr q6)] at h
    refine r_also (kd := 3) hR (by omega) ha (fun M1 o1 R1 => ⟨rfl, r_numbered (lo := 0) (hi := 99) R1 (by omega) (by omega) (fun M2 o2 R2 g2 => ⟨_, rfl, ?_⟩)⟩)
    have o2' : Off oRl M M2 := (o1.wk fun _ _ _ _ z => oRd_rl (oEn_rd z)).tr (o2.wk fun _ _ _ _ => oRd_rl)
    have d2 := (hr.en o1).rd o2
    refine ⟨fun _ => bk_171_48 (h M2 o2' R2 d2), fun _ => ⟨i0, ?_⟩⟩
    rw [r0 d2, show (iz (R 0) = 6) = (R 0 = 6) by rw [show (6 : Int32) = iz 6 from rfl, iz_eq (by omega) (by omega) (by omega) (by omega)]]
    exact ⟨fun z => absurd q6 z, fun _ => bk_171_48 (h M2 o2' R2 d2)⟩
theorem r_aBidder {at_ : Int} (hR : rSt M tp n ρ) (hr : rRd M R) (hB : RB R) (ha : -1 ≤ at_ ∧ at_ ≤ 500) (h : ∀ M', Off oRl M M' → rSt M' tp n (biS tp n ρ R at_).1 → rRd M' (biS tp n ρ R at_).2 → Q none M') : zEv Γ 172 [zo 10 0 0, zi (iz at_)] M Q := by
  have h1 := hB.2.1
  have i1 : vp_in 1 240 := by unfold vp_in; decide
  have r1 : ∀ {M2 : zM}, rRd M2 R → M2.1 10 0 11 (1 : Int32).toNatClampNeg = iz (R 1) := fun hr => hr 1 (by omega)
  have e7 : (iz (R 1) = 7) = (R 1 = 7) := by rw [show (7 : Int32) = iz 7 from rfl, iz_eq (by omega) (by omega) (by omega) (by omega)]
  unfold biS at h
  refine en_172 (bk_172_0 ⟨i1, ?_⟩)
  rw [r1 hr, e7]
  refine ⟨fun q => ?_, fun q => ?_⟩
  · have ef : full ρ (R 1 = 7) at_ = ρ := by unfold full; rw [if_neg q]
    rw [ef] at h
    refine r_numbered (lo := 0) (hi := 99) hR (by omega) (by omega) (fun M1 o1 R1 g1 => ⟨_, rfl, r_numbered (lo := 0) (hi := 99) R1 (by omega) (by omega) (fun M2 o2 R2 g2 => ⟨_, rfl, ?_⟩)⟩)
    have d2 := (hr.rd o1).rd o2
    have o2' : Off oRl M M2 := (o1.tr o2).wk fun _ _ _ _ => oRd_rl
    rw [R2.2.1]
    cases hw2 : (nuS tp n (nuS tp n ρ 0 99).1 0 99).1.1 with
    | true =>
      rw [if_pos (Or.inl hw2)] at h
      exact ⟨fun _ => h M2 o2' R2 d2, fun z => absurd z (by decide)⟩
    | false =>
      rw [if_neg (by rintro (z | z); rw [hw2] at z; cases z; exact q z)] at h
      refine ⟨fun z => absurd rfl z, fun _ => ⟨i1, ?_⟩⟩
      rw [r1 d2, e7]
      refine ⟨fun _ => ⟨i1, ?_⟩, fun z => absurd z q⟩
      rw [show (10 : Int32) = iz 10 from rfl, iz_add, show (10 : Int) + R 1 = ((10 + (R 1).toNat : Nat) : Int) by omega, iz_clN (by omega)]
      have d3 := d2.w (k := 10 + (R 1).toNat) (v := (nuS tp n ρ 0 99).2.2) (by omega)
      have e1 : (zw M2 10 0 11 (10 + (R 1).toNat) (iz (nuS tp n ρ 0 99).2.2)).1 10 0 11 (1 : Int32).toNatClampNeg = iz (R 1) := by
        have := d3 1 (by omega)
        rw [upS_n (by omega)] at this
        exact this
      rw [e1, show (17 : Int32) = iz 17 from rfl, iz_add, show (17 : Int) + R 1 = ((17 + (R 1).toNat : Nat) : Int) by omega, iz_clN (by omega)]
      have d4 := d3.w (k := 17 + (R 1).toNat) (v := (nuS tp n (nuS tp n ρ 0 99).1 0 99).2.2) (by omega)
      have e2 : (zw (zw M2 10 0 11 (10 + (R 1).toNat) (iz (nuS tp n ρ 0 99).2.2)) 10 0 11 (17 + (R 1).toNat) (iz (nuS tp n (nuS tp n ρ 0 99).1 0 99).2.2)).1 10 0 11 (1 : Int32).toNatClampNeg = iz (R 1) := by
        have := d4 1 (by omega)
        rw [upS_n (by omega), upS_n (by omega)] at this
        exact this
      rw [e2, iz1, iz_add]
      exact ⟨iz_inN (by omega) (by omega), i1, iz_inN (by omega) (by omega), i1, i1, h _ (((o2'.w _ (by unfold oRl; omega)).w _ (by unfold oRl; omega)).w _ (by unfold oRl; omega)) R2.w.w.w (d4.w (k := 1) (by omega))⟩
  · have ef : full ρ (R 1 = 7) at_ = alS ρ 3 at_ := by unfold full; rw [if_pos q]
    rw [ef, if_pos (Or.inr q)] at h
    refine r_also (kd := 3) hR (by omega) ha (fun M0 o0 R0 => ⟨rfl, r_numbered (lo := 0) (hi := 99) R0 (by omega) (by omega) (fun M1 o1 R1 g1 => ⟨_, rfl, r_numbered (lo := 0) (hi := 99) R1 (by omega) (by omega) (fun M2 o2 R2 g2 => ⟨_, rfl, ?_⟩)⟩)⟩)
    have d2 := ((hr.en o0).rd o1).rd o2
    have o2' : Off oRl M M2 := (o0.wk fun _ _ _ _ z => oRd_rl (oEn_rd z)).tr ((o1.tr o2).wk fun _ _ _ _ => oRd_rl)
    refine ⟨fun _ => h M2 o2' R2 d2, fun _ => ⟨i1, ?_⟩⟩
    rw [r1 d2, e7]
    exact ⟨fun z => absurd q z, fun _ => h M2 o2' R2 d2⟩
theorem r_aSort {at_ : Int} (hR : rSt M tp n ρ) (hr : rRd M R) (hB : RB R) (ha : -1 ≤ at_ ∧ at_ ≤ 500) (h : ∀ M', Off oRl M M' → rSt M' tp n (soS tp n ρ R at_).1 → rRd M' (soS tp n ρ R at_).2 → Q none M') : zEv Γ 173 [zo 10 0 0, zi (iz at_)] M Q := by
  have h1 := hB.2.1
  unfold soS at h
  refine en_173 (bk_173_0 (r_oneBidder hR hr hB (fun M1 o1 R1 g1 => ⟨_, rfl, r_numbered (lo := 0) (hi := 99) R1 (by omega) (by omega) (fun M2 o2 R2 g2 => ⟨_, rfl, r_numbered (lo := 1) (hi := 9) R2 (by omega) (by omega) (fun M3 o3 R3 g3 => ⟨_, rfl, ?_⟩)⟩)⟩)))
  have d3 := ((hr.rd o1).rd o2).rd o3
  have o3' : Off oRl M M3 := ((o1.tr o2).tr o3).wk fun _ _ _ _ => oRd_rl
  have v1 := nuS_one (tp := tp) (n := n) (ρ := ρ) (hi := R 1 - 1) (by omega)
  have hab : 0 ≤ (oneS tp n ρ R).2.2 ∧ (oneS tp n ρ R).2.2 ≤ 6 := by unfold oneS; omega
  simp only at h
  generalize oneS tp n ρ R = A at *
  generalize nuS tp n A.1 0 99 = V at *
  generalize nuS tp n V.1 1 9 = C at *
  rw [R3.2.1, g1]
  cases hw3 : C.1.1 with
  | true =>
    rw [if_pos (Or.inl hw3)] at h
    exact ⟨fun _ => h M3 o3' R3 d3, fun z => absurd z (by decide)⟩
  | false =>
    refine ⟨fun z => absurd rfl z, fun _ => ?_⟩
    cases hg : A.2.1 with
    | false =>
      rw [if_pos (Or.inr (by rw [hg]; simp))] at h
      exact ⟨fun z => absurd rfl z, fun _ => h M3 o3' R3 d3⟩
    | true =>
      rw [if_neg (by rintro (z | z); rw [hw3] at z; cases z; exact z hg)] at h
      refine ⟨fun _ => ?_, fun z => absurd z (by decide)⟩
      obtain ⟨a, hA⟩ : ∃ a : Nat, A.2.2 = (a : Int) := ⟨A.2.2.toNat, by omega⟩
      rw [hA] at h hab ⊢
      rw [show ((a : Int).toNat) = a by omega] at h
      have hsb := hB.2.2.2 a (by omega)
      have e80 : (80 : Int32) + iz (a : Int) = iz ((80 + a : Nat) : Int) := by
        rw [show (80 : Int32) = iz 80 from rfl, iz_add]
        exact congrArg iz (by omega)
      have i80 := iz_inN (i := 80 + a) (n := 240) (by omega) (by omega)
      rw [e80, iz_clN (by omega), d3 (80 + a) (by omega), show (iz (R (80 + a)) = 3) = (R (80 + a) = 3) by rw [show (3 : Int32) = iz 3 from rfl, iz_eq (by omega) (by omega) (by omega) (by omega)]]
      refine ⟨i80, fun q => ⟨i80, ?_⟩, fun q => ?_⟩
      · rw [if_neg q] at h
        have e87 : (87 : Int32) + 6 * iz (a : Int) + 2 * iz (R (80 + a)) = iz ((87 + 6 * a + 2 * (R (80 + a)).toNat : Nat) : Int) := by
          rw [show (87 : Int32) = iz 87 from rfl, show (6 : Int32) = iz 6 from rfl, show (2 : Int32) = iz 2 from rfl, iz_mul, iz_mul, iz_add, iz_add]
          exact congrArg iz (by omega)
        rw [e87, iz_clN (by omega)]
        have d4 := d3.w (k := 87 + 6 * a + 2 * (R (80 + a)).toNat) (v := V.2.2) (by omega)
        have e81 : (zw M3 10 0 11 (87 + 6 * a + 2 * (R (80 + a)).toNat) (iz V.2.2)).1 10 0 11 (80 + a) = iz (R (80 + a)) := by
          have := d4 (80 + a) (by omega)
          rw [upS_n (by omega)] at this
          exact this
        rw [e81, e87, iz_s, iz_clN (by omega)]
        have d5 := d4.w (k := 87 + 6 * a + 2 * (R (80 + a)).toNat + 1) (v := C.2.2) (by omega)
        have e82 : (zw (zw M3 10 0 11 (87 + 6 * a + 2 * (R (80 + a)).toNat) (iz V.2.2)) 10 0 11 (87 + 6 * a + 2 * (R (80 + a)).toNat + 1) (iz C.2.2)).1 10 0 11 (80 + a) = iz (R (80 + a)) := by
          have := d5 (80 + a) (by omega)
          rw [upS_n (by omega), upS_n (by omega)] at this
          exact this
        rw [e82, iz1, iz_add]
        refine ⟨iz_inN (by omega) (by omega), i80, iz_inN (by omega) (by omega), i80, i80, h _ (((o3'.w _ (by unfold oRl; omega)).w _ (by unfold oRl; omega)).w _ (by unfold oRl; omega)) R3.w.w.w ?_⟩
        rw [show 88 + 6 * a + 2 * (R (80 + a)).toNat = 87 + 6 * a + 2 * (R (80 + a)).toNat + 1 by omega]
        exact d5.w (by omega)
      · rw [if_pos q] at h
        exact r_also (kd := 3) R3 (by omega) ha (fun M4 o4 R4 => ⟨rfl, h M4 (o3'.tr (o4.wk fun _ _ _ _ z => oRd_rl (oEn_rd z))) R4 (d3.en o4)⟩)
end Z89
