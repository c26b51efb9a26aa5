def cRL (M : zM) (tp : Nat → Int) (n m : Nat) (ρ : RP) (T R : SB) : Prop := cR M tp n m ρ ∧ pB tp n ρ ∧ cS M 12 T ∧ WK T ∧ (ρ.1 = false → ρ.2.2.1 = 0 → T = R)
def oL (c t f i : Nat) : Prop := (c = 5 ∧ t = 0 ∧ f = 0 ∧ (i = 1 ∨ i = 2 ∨ i = 8)) ∨ (c = 7 ∧ t = 12)
theorem oC_oL {c t f i : Nat} (h : oC c t f i) : oL c t f i := by
  unfold oC at h
  unfold oL
  omega
section Z93
variable {Γ : zC} {Q : zQ} {M : zM} {tp : Nat → Int} {n m : Nat} {ρ : RP} {T R : SB}
theorem oC_L {M M' : zM} (h : Off oC M M') : Off oL M M' := h.wk fun _ _ _ _ => oC_oL
theorem cS_oc {M M' : zM} {t : Nat} (h : cS M t T) (ho : Off oC M M') : cS M' t T := h.off ho (by unfold oC; intro f i; omega)
theorem cR_w7 {t f i : Nat} {x : Int32} (h : cR M tp n m ρ) : cR (zw M 7 t f i x) tp n m ρ := h.off (P := fun c _ _ _ => c = 7) ((Off.rf M).w _ rfl) (by intro f i _; omega) (by intro i _; omega)
theorem badL {ρ2 : RP} {R2 : SB} {M2 : zM} (hC : cS M 12 T) (hW : WK T) (o : Off oC M M2) (hR : cR M2 tp n m (finS tp n ρ2)) (hf : (finS tp n ρ2).2.2.1 ≠ 0) (hB : pB tp n ρ2) : cRL M2 tp n m (finS tp n ρ2) T R2 := ⟨hR, pB_fin hB, cS_oc hC o, hW, fun _ z => absurd z hf⟩
theorem cS_f {M : zM} {t i : Nat} {v : Int} {T : SB} (h : cS M t T) (hi : i < 4) : cS (zw M 7 t 0 i (iz v)) t (upS T i v) := cS_w h (Or.inl ⟨rfl, hi, rfl⟩)
theorem cS_5 {M : zM} {t i : Nat} {v : Int} {T : SB} (h : cS M t T) (hi : i < 6) : cS (zw M 7 t 5 i (iz v)) t (upS T (4 + i) v) := cS_w h (Or.inr (Or.inl ⟨rfl, hi, rfl⟩))
theorem cS_7 {M : zM} {t i : Nat} {v : Int} {T : SB} (h : cS M t T) (hi : i < 7) : cS (zw M 7 t 7 i (iz v)) t (upS T (10 + i) v) := cS_w h (Or.inr (Or.inr (Or.inl ⟨rfl, hi, rfl⟩)))
theorem cS_8 {M : zM} {t i : Nat} {v : Int} {T : SB} (h : cS M t T) (hi : i < 7) : cS (zw M 7 t 8 i (iz v)) t (upS T (17 + i) v) := cS_w h (Or.inr (Or.inr (Or.inr (Or.inl ⟨rfl, hi, rfl⟩))))
theorem cS_9 {M : zM} {t i : Nat} {v : Int} {T : SB} (h : cS M t T) (hi : i < 7) : cS (zw M 7 t 9 i (iz v)) t (upS T (24 + i) v) := cS_w h (Or.inr (Or.inr (Or.inr (Or.inr (Or.inl ⟨rfl, hi, rfl⟩)))))
theorem cS_10 {M : zM} {t i : Nat} {v : Int} {T : SB} (h : cS M t T) (hi : i < 7) : cS (zw M 7 t 10 i (iz v)) t (upS T (31 + i) v) := cS_w h (Or.inr (Or.inr (Or.inr (Or.inr (Or.inr (Or.inl ⟨rfl, hi, rfl⟩))))))
theorem cS_14 {M : zM} {t i : Nat} {v : Int} {T : SB} (h : cS M t T) (hi : i < 42) : cS (zw M 7 t 14 i (iz v)) t (upS T (38 + i) v) := cS_w h (Or.inr (Or.inr (Or.inr (Or.inr (Or.inr (Or.inr (Or.inl ⟨rfl, hi, rfl⟩)))))))
theorem cS_15 {M : zM} {t i : Nat} {v : Int} {T : SB} (h : cS M t T) (hi : i < 49) : cS (zw M 7 t 15 i (iz v)) t (upS T (129 + i) v) := cS_w h (Or.inr (Or.inr (Or.inr (Or.inr (Or.inr (Or.inr (Or.inr (Or.inl ⟨rfl, hi, rfl⟩))))))))
theorem cS_16 {M : zM} {t i : Nat} {v : Int} {T : SB} (h : cS M t T) (hi : i < 49) : cS (zw M 7 t 16 i (iz v)) t (upS T (178 + i) v) := cS_w h (Or.inr (Or.inr (Or.inr (Or.inr (Or.inr (Or.inr (Or.inr (Or.inr (⟨rfl, hi, rfl⟩)))))))))
theorem c_hasBidder0 {x : Int32} (h7 : 0 ≤ T 1 ∧ T 1 ≤ 7) (hC : cS M 12 T) (hf : (x.toInt < 0 ∨ T 1 ≤ x.toInt) → Q (some (zi 0)) M) (ht : ∀ i : Nat, (i : Int) < T 1 → x = iz (i : Int) → Q (some (zi 1)) M) : zEv Γ 103 [zo 7 12 0, zi x] M Q := by
  obtain ⟨a, ha1, ha2, rfl⟩ := iz_ex x
  rw [iz_toInt ha1 ha2] at hf
  refine en_103 (bk_103_0 ?_)
  rw [hC.1 1 (by omega), iz0, iz_lt (by omega) (by omega) (by omega) (by omega), iz_le (by omega) (by omega) (by omega) (by omega)]
  refine ⟨fun q => ⟨Or.inl rfl, hf (by omega)⟩, fun q1 => ⟨fun q => ⟨Or.inl rfl, hf (by omega)⟩, fun q2 => ⟨Or.inr rfl, ?_⟩⟩⟩
  obtain ⟨i, rfl⟩ := Int.eq_ofNat_of_zero_le (show 0 ≤ a by omega)
  exact ht i (by omega) rfl
theorem c_hasBoard0 {x : Int32} (h6 : 0 ≤ T 0 ∧ T 0 ≤ 6) (hC : cS M 12 T) (hf : (x.toInt < 0 ∨ T 0 ≤ x.toInt) → Q (some (zi 0)) M) (ht : ∀ i : Nat, (i : Int) < T 0 → x = iz (i : Int) → Q (some (zi 1)) M) : zEv Γ 102 [zo 7 12 0, zi x] M Q := by
  obtain ⟨a, ha1, ha2, rfl⟩ := iz_ex x
  rw [iz_toInt ha1 ha2] at hf
  refine en_102 (bk_102_0 ?_)
  rw [hC.1 0 (by omega), iz0, iz_lt (by omega) (by omega) (by omega) (by omega), iz_le (by omega) (by omega) (by omega) (by omega)]
  refine ⟨fun q => ⟨Or.inl rfl, hf (by omega)⟩, fun q1 => ⟨fun q => ⟨Or.inl rfl, hf (by omega)⟩, fun q2 => ⟨Or.inr rfl, ?_⟩⟩⟩
  obtain ⟨i, rfl⟩ := Int.eq_ofNat_of_zero_le (show 0 ≤ a by omega)
  exact ht i (by omega) rfl
theorem c_readBar (hL : cRL M tp n m ρ T R) (h : ∀ (M' : zM) (T' : SB), Off oL M M' → cRL M' tp n m (finS tp n (brB tp n ρ R).1) T' (brB tp n ρ R).2 → Q none M') : zEv Γ 79 [zo 5 0 0] M Q := by
  obtain ⟨hR, hB, hC, hW, hE⟩ := hL
  unfold brB at h
  dsimp only at h
  refine en_79 (bk_79_0 (c_takeNumber (la := 0) (ha := 99) (lo := 0) (hi := 99) hR hB (by omega) (by omega) (fun _ _ => ⟨rfl, rfl⟩) (fun M1 v o1 R1 v1 v2 g => ⟨_, rfl, c_stop R1 (fun M2 o2 R2 f2 => h M2 T (oC_L (o1.tr o2)) (badL hC hW (o1.tr o2) R2 f2 (pB_nu hB))) (fun M2 o2 R2 w2 f2 e2 => ?_)⟩)))
  obtain ⟨g1, ev⟩ := g w2 f2
  have q := nu_0 w2 f2
  have eT := hE q.1 q.2.1
  subst eT
  exact h _ (upS T 3 v) ((oC_L (o1.tr o2)).w _ (Or.inr ⟨rfl, rfl⟩)) ⟨cR_w7 R2, pB_fin (pB_nu hB), cS_f (cS_oc hC (o1.tr o2)) (by omega), WK_up (a := 0) (b := 99) hW (by omega) ⟨rfl, rfl⟩ (by omega), fun _ _ => by rw [ev]⟩
theorem c_ofB {lo hi : Int} {f base : Nat} (hf : (f = 9 ∧ base = 24 ∧ lo = 1 ∧ hi = 9) ∨ (f = 10 ∧ base = 31 ∧ lo = 0 ∧ hi = 9999)) (hL : cRL M tp n m ρ T R) (h : ∀ (M' : zM) (T' : SB), Off oL M M' → cRL M' tp n m (finS tp n (ofS tp n ρ R base lo hi).1) T' (ofS tp n ρ R base lo hi).2 → Q none M') : zEv Γ 80 [zo 5 0 0] M (fun o M1 => ∃ r1, o = some (zi r1) ∧ (zEv Γ 83 [zo 5 0 0, zi (iz lo), zi (iz hi)] M1 (fun o M2 => ∃ r2, o = some (zi r2) ∧ (zEv Γ 84 [zo 5 0 0] M2 (fun o M3 => o = none ∧ ((¬ (M3.1 5 0 0 1) = 0 → Q none M3) ∧ ((M3.1 5 0 0 1) = 0 → (zEv Γ 103 [zo 7 12 0, zi r1] M3 (fun o M4 => ∃ r4, o = some (zi r4) ∧ ((r4 = 0 → Q none M4) ∧ (¬ r4 = 0 → (vp_in r1 7 ∧ Q none (zw M4 7 12 f (r1).toNatClampNeg r2))))))))))))) := by
  obtain ⟨hR, hB, hC, hW, hE⟩ := hL
  have t1 : 0 ≤ T 1 ∧ T 1 ≤ 7 := hW.r (by omega) ⟨rfl, rfl⟩
  unfold ofS at h
  dsimp only at h
  have pB1 : pB tp n (oneS tp n ρ R).1 := pB_nu hB
  refine c_takeBidder hR hB (hC.1 1 (by omega)) t1 (fun z1 z2 => by rw [hE z1 z2]) (fun M1 v o1 R1 v1 v2 g => ⟨_, rfl, ?_⟩)
  refine c_takeNumber R1 pB1 (by omega) (by omega) (fun _ _ => ⟨rfl, rfl⟩) (fun M2 w o2 R2 w1 w2 g2 => ⟨_, rfl, ?_⟩)
  refine c_stop R2 (fun M3 o3 R3 f3 => h M3 T (oC_L ((o1.tr o2).tr o3)) (badL hC hW ((o1.tr o2).tr o3) R3 f3 (pB_nu pB1))) (fun M3 o3 R3 z3 f3 e3 => ?_)
  obtain ⟨g1, ew⟩ := g2 z3 f3
  have q2 := nu_0 z3 f3
  obtain ⟨g0, ev⟩ := g q2.1 q2.2.1
  have q1 := nu_0 (tp := tp) (n := n) (ρ := ρ) (lo := 0) (hi := R 1 - 1) q2.1 q2.2.1
  have eT := hE q1.1 q1.2.1
  subst eT
  have b1 : 0 ≤ (oneS tp n ρ T).2.2 ∧ (oneS tp n ρ T).2.2 ≤ T 1 - 1 := q1.2.2.2.2.2
  rw [← ev] at b1 h
  rw [← ew] at h q2
  obtain ⟨a, rfl⟩ := Int.eq_ofNat_of_zero_le b1.1
  rw [Int.toNat_natCast] at h
  refine c_hasBidder0 t1 (cS_oc hC ((o1.tr o2).tr o3)) (fun z => ?_) (fun i hi0 hx => ⟨_, rfl, fun z => absurd z (by decide), fun _ => ?_⟩)
  · rw [iz_toInt (by omega) (by omega)] at z
    omega
  · rw [iz_clN (by omega)]
    refine ⟨iz_inN (by omega) (by omega), h _ (upS T (base + a) w) ((oC_L ((o1.tr o2).tr o3)).w _ (Or.inr ⟨rfl, rfl⟩)) ⟨cR_w7 R3, pB_fin (pB_nu pB1), ?_, ?_, fun _ _ => rfl⟩⟩
    · rcases hf with ⟨rfl, rfl, -, -⟩ | ⟨rfl, rfl, -, -⟩
      · exact cS_9 (cS_oc hC ((o1.tr o2).tr o3)) (by omega)
      · exact cS_10 (cS_oc hC ((o1.tr o2).tr o3)) (by omega)
    · rcases hf with ⟨_, rfl, rfl, rfl⟩ | ⟨_, rfl, rfl, rfl⟩
      · exact WK_up hW (by omega) (lh24 (by omega)) q2.2.2.2.2.2
      · exact WK_up hW (by omega) (lh31 (by omega)) q2.2.2.2.2.2
theorem c_readMark (hL : cRL M tp n m ρ T R) (h : ∀ (M' : zM) (T' : SB), Off oL M M' → cRL M' tp n m (finS tp n (ofS tp n ρ R 24 1 9).1) T' (ofS tp n ρ R 24 1 9).2 → Q none M') : zEv Γ 73 [zo 5 0 0, zo 7 12 9, zi 1, zi 9] M Q := en_73_7_9 (bk_73_0_7_9 (c_ofB (f := 9) (base := 24) (lo := 1) (hi := 9) (Or.inl ⟨rfl, rfl, rfl, rfl⟩) hL h))
theorem c_readPurse (hL : cRL M tp n m ρ T R) (h : ∀ (M' : zM) (T' : SB), Off oL M M' → cRL M' tp n m (finS tp n (ofS tp n ρ R 31 0 9999).1) T' (ofS tp n ρ R 31 0 9999).2 → Q none M') : zEv Γ 73 [zo 5 0 0, zo 7 12 10, zi 0, zi 9999] M Q := en_73_7_10 (bk_73_0_7_10 (c_ofB (f := 10) (base := 31) (lo := 0) (hi := 9999) (Or.inr ⟨rfl, rfl, rfl, rfl⟩) hL h))
theorem c_readExtra (hL : cRL M tp n m ρ T R) (h : ∀ (M' : zM) (T' : SB), Off oL M M' → cRL M' tp n m (finS tp n (exB tp n ρ R).1) T' (exB tp n ρ R).2 → Q none M') : zEv Γ 74 [zo 5 0 0] M Q := by
  obtain ⟨hR, hB, hC, hW, hE⟩ := hL
  have t1 : 0 ≤ T 1 ∧ T 1 ≤ 7 := hW.r (by omega) ⟨rfl, rfl⟩
  have t0 : 0 ≤ T 0 ∧ T 0 ≤ 6 := hW.r (by omega) ⟨rfl, rfl⟩
  unfold exB at h
  dsimp only at h
  have pB1 : pB tp n (oneS tp n ρ R).1 := pB_nu hB
  have pB2 : pB tp n (nuS tp n (oneS tp n ρ R).1 0 (R 0 - 1)).1 := pB_nu pB1
  refine en_74 (bk_74_0 (c_takeBidder hR hB (hC.1 1 (by omega)) t1 (fun z1 z2 => by rw [hE z1 z2]) (fun M1 v o1 R1 v1 v2 g => ⟨_, rfl, ?_⟩)))
  have e0 : M1.1 7 12 0 0 = iz (T 0) := (cS_oc hC o1).1 0 (by omega)
  rw [e0, iz1, iz_sub]
  refine c_takeNumber (la := 0) (lo := 0) (hi := R 0 - 1) R1 pB1 (by omega) (by omega) (fun z1 z2 => ⟨rfl, by rw [hE (nu_0 z1 z2).1 (nu_0 z1 z2).2.1]⟩) (fun M2 w o2 R2 w1 w2 g2 => ⟨_, rfl, ?_⟩)
  refine c_takeAmount R2 pB2 (fun M3 u o3 R3 u1 u2 g3 => ⟨_, rfl, ?_⟩)
  refine c_stop R3 (fun M4 o4 R4 f4 => h M4 T (oC_L (((o1.tr o2).tr o3).tr o4)) (badL hC hW (((o1.tr o2).tr o3).tr o4) R4 f4 (pB_mo pB2))) (fun M4 o4 R4 z4 f4 e4 => ?_)
  have q3 := mo_0 z4 f4
  have eu := g3 z4 f4
  have q2 := nu_0 q3.1 q3.2.1
  obtain ⟨g1, ew⟩ := g2 q3.1 q3.2.1
  obtain ⟨g0, ev⟩ := g q2.1 q2.2.1
  have q1 := nu_0 (tp := tp) (n := n) (ρ := ρ) (lo := 0) (hi := R 1 - 1) q2.1 q2.2.1
  have eT := hE q1.1 q1.2.1
  subst eT
  have b1 : 0 ≤ (oneS tp n ρ T).2.2 ∧ (oneS tp n ρ T).2.2 ≤ T 1 - 1 := q1.2.2.2.2.2
  have b2 := q2.2.2.2.2.2
  have b3 := q3.2.2
  rw [← ev] at b1 h
  rw [← ew] at b2 h
  rw [← eu] at b3 h
  obtain ⟨a, rfl⟩ := Int.eq_ofNat_of_zero_le b1.1
  obtain ⟨b, rfl⟩ := Int.eq_ofNat_of_zero_le b2.1
  rw [Int.toNat_natCast, Int.toNat_natCast] at h
  have oo := ((o1.tr o2).tr o3).tr o4
  refine c_hasBidder0 t1 (cS_oc hC oo) (fun z => ?_) (fun i hi0 hx => ⟨_, rfl, fun z => absurd z (by decide), fun _ => ?_⟩)
  · rw [iz_toInt (by omega) (by omega)] at z
    omega
  · refine c_hasBoard0 t0 (cS_oc hC oo) (fun z => ?_) (fun i2 hi2 hx2 => ⟨_, rfl, fun z => absurd z (by decide), fun _ => ?_⟩)
    · rw [iz_toInt (by omega) (by omega)] at z
      omega
    · rw [show (6 : Int32) = iz 6 from rfl, iz_mul, iz_add, show (a : Int) * 6 + (b : Int) = ((6 * a + b : Nat) : Int) by omega, iz_clN (by omega)]
      refine ⟨iz_inN (by omega) (by omega), h _ (upS T (38 + 6 * a + b) u) ((oC_L oo).w _ (Or.inr ⟨rfl, rfl⟩)) ⟨cR_w7 R4, pB_fin (pB_mo pB2), by rw [show 38 + 6 * a + b = 38 + (6 * a + b) by omega]; exact cS_14 (cS_oc hC oo) (by omega), WK_up hW (by omega) (lh38 (by omega)) b3, fun _ _ => rfl⟩⟩
end Z93
