theorem two_e {T : SB} {base a b : Nat} {v : Int} (ha : a < 7) (hb : b < 7) : two2 T base (7 * (a : Int) + (b : Int)) v = upS (upS T (base + (7 * a + b)) v) (base + (7 * b + a)) v := by
  unfold two2
  rw [if_neg (by omega), show (7 * (a : Int) + (b : Int)).toNat = 7 * a + b by omega, show (7 * a + b) % 7 = b by omega, show (7 * a + b) / 7 = a by omega, show base + 7 * b + a = base + (7 * b + a) by omega]
section Z95
variable {Γ : zC} {Q : zQ} {M : zM} {tp : Nat → Int} {n m : Nat} {ρ : RP} {T R : SB}
theorem c_twoW {f a b : Nat} {x : Int32} (h7 : 0 ≤ T 1 ∧ T 1 ≤ 7) (hC : cS M 12 T) (ha : (a : Int) < T 1) (hb : (b : Int) < T 1) (h : Q none (zw (zw M 7 12 f (7 * a + b) x) 7 12 f (7 * b + a) x)) : zEv Γ 103 [zo 7 12 0, zi (iz (a : Int))] M (fun o M5 => ∃ r5, o = some (zi r5) ∧ ((r5 = 0 → Q none M5) ∧ (¬ r5 = 0 → (zEv Γ 103 [zo 7 12 0, zi (iz (b : Int))] M5 (fun o M6 => ∃ r6, o = some (zi r6) ∧ ((r6 = 0 → Q none M6) ∧ (¬ r6 = 0 → (vp_in ((iz (a : Int) * (7 : Int32)) + iz (b : Int)) 49 ∧ (vp_in ((iz (b : Int) * (7 : Int32)) + iz (a : Int)) 49 ∧ Q none (zw (zw M6 7 12 f (((iz (a : Int) * (7 : Int32)) + iz (b : Int))).toNatClampNeg x) 7 12 f (((iz (b : Int) * (7 : Int32)) + iz (a : Int))).toNatClampNeg x)))))))))) := by
  refine c_hasBidder0 h7 hC (fun z => ?_) (fun i hi0 hx => ⟨_, rfl, fun z => absurd z (by decide), fun _ => ?_⟩)
  · rw [iz_toInt (by omega) (by omega)] at z
    omega
  · refine c_hasBidder0 h7 hC (fun z => ?_) (fun i2 hi2 hx2 => ⟨_, rfl, fun z => absurd z (by decide), fun _ => ?_⟩)
    · rw [iz_toInt (by omega) (by omega)] at z
      omega
    · rw [show (7 : Int32) = iz 7 from rfl, iz_mul, iz_mul, iz_add, iz_add, show (a : Int) * 7 + (b : Int) = ((7 * a + b : Nat) : Int) by omega, show (b : Int) * 7 + (a : Int) = ((7 * b + a : Nat) : Int) by omega, iz_clN (by omega), iz_clN (by omega)]
      exact ⟨iz_inN (by omega) (by omega), iz_inN (by omega) (by omega), h⟩
theorem c_readFriend (hL : cRL M tp n m ρ T R) (h : ∀ (M' : zM) (T' : SB), Off oL M M' → cRL M' tp n m (finS tp n (frB tp n ρ R).1) T' (frB tp n ρ R).2 → Q none M') : zEv Γ 76 [zo 5 0 0] M Q := by
  obtain ⟨hR, hB, hC, hW, hE⟩ := hL
  have t1 : 0 ≤ T 1 ∧ T 1 ≤ 7 := hW.r (by omega) ⟨rfl, rfl⟩
  unfold frB at h
  dsimp only at h
  refine en_76 (bk_76_0 (c_takeBidder hR hB (hC.1 1 (by omega)) t1 (fun z1 z2 => by rw [hE z1 z2]) (fun M1 v o1 R1 v1 v2 g => ⟨_, rfl, ?_⟩)))
  refine c_takeOther R1 hB ((cS_oc hC o1).1 1 (by omega)) t1 (fun z1 z2 => by rw [hE (nu_0 (lo := 0) (hi := R 1 - 1) z1 z2).1 (nu_0 (lo := 0) (hi := R 1 - 1) z1 z2).2.1]) ⟨v1, v2⟩ g (fun M2 w o2 R2 w1 w2 g2 => ⟨_, rfl, ?_⟩)
  refine c_takeAmount R2 (pB_tw hB) (fun M3 u o3 R3 u1 u2 g3 => ⟨_, rfl, ?_⟩)
  refine c_stop R3 (fun M4 o4 R4 f4 => h M4 T (oC_L (((o1.tr o2).tr o3).tr o4)) (badL hC hW (((o1.tr o2).tr o3).tr o4) R4 f4 (pB_mo (pB_tw hB)))) (fun M4 o4 R4 z4 f4 e4 => ?_)
  have oo := ((o1.tr o2).tr o3).tr o4
  have q3 := mo_0 z4 f4
  have eu := g3 z4 f4
  have q2 := g2 q3.1 q3.2.1
  have qt := tw_0 q3.1 q3.2.1
  have q1 := nu_0 (lo := 0) (hi := R 1 - 1) qt.1 qt.2
  have q0 := nu_0 (tp := tp) (n := n) (ρ := ρ) (lo := 0) (hi := R 1 - 1) q1.1 q1.2.1
  have eT := hE q0.1 q0.2.1
  subst eT
  have b3 := q3.2.2
  rw [← eu] at b3 h
  obtain ⟨a, rfl⟩ := Int.eq_ofNat_of_zero_le q2.1
  obtain ⟨b, rfl⟩ := Int.eq_ofNat_of_zero_le q2.2.2.1
  rw [q2.2.2.2.2, two_e (by omega) (by omega)] at h
  refine c_twoW t1 (cS_oc hC oo) q2.2.1 q2.2.2.2.1 (h _ _ (((oC_L oo).w _ (Or.inr ⟨rfl, rfl⟩)).w _ (Or.inr ⟨rfl, rfl⟩)) ⟨cR_w7 (cR_w7 R4), pB_fin (pB_mo (pB_tw hB)), cS_15 (cS_15 (cS_oc hC oo) (by omega)) (by omega), ?_, fun _ _ => rfl⟩)
  exact WK_up (WK_up hW (by omega) (lh129 (by omega)) b3) (by omega) (lh129 (by omega)) b3
theorem c_readFoe (hL : cRL M tp n m ρ T R) (h : ∀ (M' : zM) (T' : SB), Off oL M M' → cRL M' tp n m (finS tp n (foB tp n ρ R).1) T' (foB tp n ρ R).2 → Q none M') : zEv Γ 77 [zo 5 0 0] M Q := by
  obtain ⟨hR, hB, hC, hW, hE⟩ := hL
  have t1 : 0 ≤ T 1 ∧ T 1 ≤ 7 := hW.r (by omega) ⟨rfl, rfl⟩
  unfold foB at h
  dsimp only at h
  refine en_77 (bk_77_0 (c_takeBidder hR hB (hC.1 1 (by omega)) t1 (fun z1 z2 => by rw [hE z1 z2]) (fun M1 v o1 R1 v1 v2 g => ⟨_, rfl, ?_⟩)))
  refine c_takeOther R1 hB ((cS_oc hC o1).1 1 (by omega)) t1 (fun z1 z2 => by rw [hE (nu_0 (lo := 0) (hi := R 1 - 1) z1 z2).1 (nu_0 (lo := 0) (hi := R 1 - 1) z1 z2).2.1]) ⟨v1, v2⟩ g (fun M2 w o2 R2 w1 w2 g2 => ⟨_, rfl, ?_⟩)
  refine c_stop R2 (fun M4 o4 R4 f4 => h M4 T (oC_L ((o1.tr o2).tr o4)) (badL hC hW ((o1.tr o2).tr o4) R4 f4 (pB_tw hB))) (fun M4 o4 R4 z4 f4 e4 => ?_)
  have oo := (o1.tr o2).tr o4
  have q2 := g2 z4 f4
  have qt := tw_0 z4 f4
  have q1 := nu_0 (lo := 0) (hi := R 1 - 1) qt.1 qt.2
  have q0 := nu_0 (tp := tp) (n := n) (ρ := ρ) (lo := 0) (hi := R 1 - 1) q1.1 q1.2.1
  have eT := hE q0.1 q0.2.1
  subst eT
  obtain ⟨a, rfl⟩ := Int.eq_ofNat_of_zero_le q2.1
  obtain ⟨b, rfl⟩ := Int.eq_ofNat_of_zero_le q2.2.2.1
  rw [q2.2.2.2.2, two_e (by omega) (by omega)] at h
  refine c_twoW (x := iz 1) t1 (cS_oc hC oo) q2.2.1 q2.2.2.2.1 (h _ _ (((oC_L oo).w _ (Or.inr ⟨rfl, rfl⟩)).w _ (Or.inr ⟨rfl, rfl⟩)) ⟨cR_w7 (cR_w7 R4), pB_fin (pB_tw hB), cS_16 (cS_16 (cS_oc hC oo) (by omega)) (by omega), ?_, fun _ _ => rfl⟩)
  exact WK_up (WK_up hW (by omega) (lh178 (by omega)) (by omega)) (by omega) (lh178 (by omega)) (by omega)
theorem c_readWay (hw : ρ.1 = false) (hL : cRL M tp n m ρ T R) (h : ∀ (M' : zM) (T' : SB), Off oL M M' → cRL M' tp n m (finS tp n (wyB tp n ρ R).1) T' (wyB tp n ρ R).2 → Q none M') : zEv Γ 78 [zo 5 0 0] M Q := by
  obtain ⟨hR, hB, hC, hW, hE⟩ := hL
  have hR0 := hR
  obtain ⟨hT, ⟨a, ham, ha8, hak⟩, hf, hp, hww⟩ := hR
  have ek := hak hw
  subst ek
  have hm := hT.2.2.2.2.1
  have kb := tkK_b (tp := tp) (n := n) (k := ρ.2.1)
  have in5 : vp_in (iz (ρ.2.1 : Int)) 501 := iz_inN (by omega) (by omega)
  refine en_78 (bk_78_0 ?_)
  rw [ha8, iz_clN (by omega), hT.1 _ ham, hT.2.1 _ ham, show (iz ((tkK tp n ρ.2.1 : Nat) : Int) = 21) = (tkK tp n ρ.2.1 = 21) by rw [show (21 : Int32) = iz 21 from rfl, iz_eq (by omega) (by omega) (by omega) (by omega)]; exact propext ⟨fun z => by omega, fun z => by omega⟩, show (iz ((tkK tp n ρ.2.1 : Nat) : Int) = 22) = (tkK tp n ρ.2.1 = 22) by rw [show (22 : Int32) = iz 22 from rfl, iz_eq (by omega) (by omega) (by omega) (by omega)]; exact propext ⟨fun z => by omega, fun z => by omega⟩, show (iz ((tkK tp n ρ.2.1 : Nat) : Int) = 23) = (tkK tp n ρ.2.1 = 23) by rw [show (23 : Int32) = iz 23 from rfl, iz_eq (by omega) (by omega) (by omega) (by omega)]; exact propext ⟨fun z => by omega, fun z => by omega⟩]
  have go : (21 ≤ tkK tp n ρ.2.1 ∧ tkK tp n ρ.2.1 ≤ 23) → zEv Γ 85 [zo 5 0 0] M (fun o M1 => o = none ∧ (zEv Γ 84 [zo 5 0 0] M1 (fun o M2 => o = none ∧ ((¬ (M2.1 5 0 0 1) = 0 → Q none M2) ∧ ((M2.1 5 0 0 1) = 0 → ((¬ tkK tp n ρ.2.1 = 21 → ((¬ tkK tp n ρ.2.1 = 22 → Q none (zw M2 7 12 0 2 (2 : Int32))) ∧ (tkK tp n ρ.2.1 = 22 → Q none (zw M2 7 12 0 2 (1 : Int32))))) ∧ (tkK tp n ρ.2.1 = 21 → Q none (zw M2 7 12 0 2 (0 : Int32))))))))) := fun hk => by
    have e : wyB tp n ρ R = (nxS ρ, upS R 2 ((tkK tp n ρ.2.1 : Int) - 21)) := by
      unfold wyB
      rw [if_neg (by rintro (z | z); rw [hw] at z; cases z; exact z hk)]
    rw [e] at h
    dsimp only at h
    refine c_goOn hR0 (fun _ => by omega) (fun M1 o1 R1 => ⟨rfl, c_stop R1 (fun M2 o2 R2 f2 => h M2 T (oC_L (o1.tr o2)) (badL hC hW (o1.tr o2) R2 f2 (pB_nx hB))) (fun M2 o2 R2 w2 f2 e2 => ?_)⟩)
    have eT := hE hw f2
    subst eT
    have put : ∀ v : Int, v = (tkK tp n ρ.2.1 : Int) - 21 → Q none (zw M2 7 12 0 2 (iz v)) := fun v ev => h _ (upS T 2 v) ((oC_L (o1.tr o2)).w _ (Or.inr ⟨rfl, rfl⟩)) ⟨cR_w7 R2, pB_fin (pB_nx hB), cS_f (cS_oc hC (o1.tr o2)) (by omega), WK_up (a := 0) (b := 2) hW (by omega) ⟨rfl, rfl⟩ (by omega), fun _ _ => by rw [ev]⟩
    exact ⟨fun z1 => ⟨fun z2 => put 2 (by omega), fun z2 => put 1 (by omega)⟩, fun z1 => put 0 (by omega)⟩
  refine ⟨in5, fun k => go (by omega), fun k1 => ⟨fun k => go (by omega), fun k2 => ⟨fun k3 => ⟨in5, ?_⟩, fun k => go (by omega)⟩⟩⟩
  have e : wyB tp n ρ R = (edS tp n ρ, R) := by
    unfold wyB
    rw [if_pos (Or.inr (by omega))]
  rw [e] at h
  dsimp only at h
  refine c_stumble (w := ((tkW tp n ρ.2.1 : Nat) : Int)) ρ.2.1 hR0 (fun _ => rfl) (fun M1 o1 R1 => ⟨rfl, ?_⟩)
  have R1' : cR M1 tp n m (edS tp n ρ) := R1
  refine c_stop R1' (fun M2 o2 R2 f2 => h M2 T (oC_L (o1.tr o2)) (badL hC hW (o1.tr o2) R2 f2 pB_ed)) (fun M2 o2 R2 w2 f2 e2 => ?_)
  rw [edS_t] at w2
  cases w2
theorem full_n {b : Prop} [Decidable b] {at_ : Int} (h0 : ρ.2.2.1 ≠ 0) (hat : ρ.2.2.1 ≠ 0 → (ρ.2.2.2 < at_ ∨ (ρ.2.2.2 = at_ ∧ ρ.2.2.1 ≤ 3))) : full ρ b at_ = ρ := by
  unfold full
  split
  · exact alS_f h0 (hat h0)
  · rfl
theorem pB_full {b : Prop} [Decidable b] {at_ : Int} (hB : pB tp n ρ) (hlt : at_ < ((tkW tp n ρ.2.1 : Nat) : Int)) : pB tp n (full ρ b at_) := by
  unfold full
  split
  · exact pB_al hB hlt
  · exact hB
theorem full_0 {b : Prop} [Decidable b] {at_ : Int} (hw : ρ.1 = false) (hat : ρ.2.2.1 ≠ 0 → (ρ.2.2.2 < at_ ∨ (ρ.2.2.2 = at_ ∧ ρ.2.2.1 ≤ 3))) (h : (full ρ b at_).2.2.1 = 0) : ρ.2.2.1 = 0 ∧ ¬ b ∧ full ρ b at_ = ρ := by
  by_cases f0 : ρ.2.2.1 = 0
  · refine ⟨f0, ?_⟩
    unfold full at h ⊢
    by_cases hb : b
    · rw [if_pos hb, alS_0 hw f0] at h
      exact absurd h (by show ¬ (3 : Int) = 0; omega)
    · rw [if_neg hb]
      exact ⟨hb, rfl⟩
  · rw [full_n f0 hat] at h
    exact absurd h f0
/-- the class's note that a row is full is the reference's -/
theorem c_full {at_ : Int} {b b' : Prop} [Decidable b] [Decidable b'] (hw : ρ.1 = false) (hR : cR M tp n m ρ) (hat : ρ.2.2.1 ≠ 0 → (ρ.2.2.2 < at_ ∨ (ρ.2.2.2 = at_ ∧ ρ.2.2.1 ≤ 3))) (hbb : ρ.2.2.1 = 0 → (b' ↔ b)) : (¬ b' → cR M tp n m (full ρ b at_)) ∧ (b' → alS ρ 3 at_ = full ρ b at_) := by
  refine ⟨fun q => ?_, fun q => ?_⟩
  · by_cases f0 : ρ.2.2.1 = 0
    · unfold full
      rw [if_neg (fun z => q ((hbb f0).mpr z))]
      exact hR
    · rw [full_n f0 hat]
      exact hR
  · by_cases f0 : ρ.2.2.1 = 0
    · unfold full
      rw [if_pos ((hbb f0).mp q)]
    · rw [full_n f0 hat]
      exact alS_f f0 (hat f0)
end Z95
