theorem so_nu {tp : Nat → Int} {n : Nat} {ρ : RP} {lo hi : Int} (hf : ρ.2.2.1 ≠ 0) (hB : pB tp n ρ) (hw : (nuS tp n ρ lo hi).1.1 = false) : (nuS tp n ρ lo hi).1.2.2 = ρ.2.2 := by
  unfold nuS at hw ⊢
  split at hw
  · rw [edS_t] at hw
    cases hw
  · next hc =>
    rw [if_neg hc]
    split
    · rfl
    · cases hb : ρ.1 with
      | true => exact absurd (Or.inl hb) hc
      | false =>
        show (alS ρ 2 ((tkW tp n ρ.2.1 : Nat) : Int)).2.2 = ρ.2.2
        rw [alS_f hf (Or.inl (hB hb hf))]
def sim (tp : Nat → Int) (n : Nat) (at_ : Int) (ρ ρ' : RP) : Prop := ρ'.1 = ρ.1 ∧ ρ'.2.1 = ρ.2.1 ∧ (ρ.1 = true → ρ'.2.2 = ρ.2.2) ∧ (ρ.1 = false → ρ'.2.2.1 = 3 ∧ ρ'.2.2.2 = at_ ∧ (ρ.2.2.1 = 0 ∨ at_ < ρ.2.2.2) ∧ at_ < ((tkW tp n ρ.2.1 : Nat) : Int))
theorem sim_nu {tp : Nat → Int} {n : Nat} {at_ lo hi : Int} {ρ ρ' : RP} (h : sim tp n at_ ρ ρ') : sim tp n at_ (nuS tp n ρ lo hi).1 (nuS tp n ρ' lo hi).1 := by
  obtain ⟨h1, h2, h3, h4⟩ := h
  cases hb : ρ.1 with
  | true =>
    rw [nu_w hb, nu_w (h1.trans hb)]
    exact ⟨h1, h2, h3, h4⟩
  | false =>
    have h5 := h4 hb
    have hb' : ρ'.1 = false := h1.trans hb
    unfold nuS
    rw [h2]
    by_cases k1 : tkK tp n ρ.2.1 = 1
    · have nc : ¬ (ρ.1 = true ∨ tkK tp n ρ.2.1 ≠ 1) := by
        rintro (z | z)
        · rw [hb] at z; cases z
        · exact z k1
      have nc' : ¬ (ρ'.1 = true ∨ tkK tp n ρ.2.1 ≠ 1) := by
        rintro (z | z)
        · rw [hb'] at z; cases z
        · exact z k1
      rw [if_neg nc, if_neg nc']
      have wl := W_lt (tp := tp) (n := n) (k := ρ.2.1) (by omega)
      by_cases hr : lo ≤ tkN tp n ρ.2.1 ∧ tkN tp n ρ.2.1 ≤ hi
      · rw [if_pos hr, if_pos hr]
        refine ⟨h1, ?_, fun z => h3 z, fun z => ⟨h5.1, h5.2.1, h5.2.2.1, ?_⟩⟩
        · show ρ'.2.1 + 1 = ρ.2.1 + 1
          omega
        · show at_ < ((tkW tp n (ρ.2.1 + 1) : Nat) : Int)
          have := h5.2.2.2
          omega
      · rw [if_neg hr, if_neg hr, alS_f (ρ := ρ') (by omega) (Or.inl (by omega))]
        have ak := alS_k ρ 2 ((tkW tp n ρ.2.1 : Nat) : Int)
        refine ⟨?_, ?_, fun z => ?_, fun z => ⟨h5.1, h5.2.1, ?_, ?_⟩⟩
        · show ρ'.1 = (alS ρ 2 ((tkW tp n ρ.2.1 : Nat) : Int)).1
          rw [ak.1]
          exact h1
        · show ρ'.2.1 + 1 = (alS ρ 2 ((tkW tp n ρ.2.1 : Nat) : Int)).2.1 + 1
          rw [ak.2]
          omega
        · have z' : (alS ρ 2 ((tkW tp n ρ.2.1 : Nat) : Int)).1 = true := z
          rw [ak.1, hb] at z'
          cases z'
        · show (alS ρ 2 ((tkW tp n ρ.2.1 : Nat) : Int)).2.2.1 = 0 ∨ at_ < (alS ρ 2 ((tkW tp n ρ.2.1 : Nat) : Int)).2.2.2
          unfold alS
          split
          · exact h5.2.2.1
          · exact Or.inr h5.2.2.2
        · show at_ < ((tkW tp n ((alS ρ 2 ((tkW tp n ρ.2.1 : Nat) : Int)).2.1 + 1) : Nat) : Int)
          rw [ak.2]
          have := h5.2.2.2
          omega
    · rw [if_pos (Or.inr k1), if_pos (Or.inr k1)]
      unfold edS
      rw [if_neg (by rw [hb]; simp), if_neg (by rw [hb']; simp), h2]
      exact ⟨rfl, rfl, fun _ => rfl, fun z => by cases z⟩
theorem sim_end {tp : Nat → Int} {n : Nat} {at_ : Int} {ρ ρ' : RP} (h : sim tp n at_ ρ ρ') : (ρ.1 = true → ρ = ρ') ∧ (ρ.1 = false → alS ρ 3 at_ = ρ') := by
  obtain ⟨h1, h2, h3, h4⟩ := h
  obtain ⟨w, k, f, p⟩ := ρ
  obtain ⟨w', k', f', p'⟩ := ρ'
  dsimp only at h1 h2 h3 h4 ⊢
  subst h1
  subst h2
  refine ⟨fun z => by rw [h3 z], fun z => ?_⟩
  have h5 := h4 z
  unfold alS
  dsimp only
  rw [if_neg, h5.1, h5.2.1]
  rintro (y | y)
  · rw [z] at y
    cases y
  · omega
section Z97a
variable {tp : Nat → Int} {n : Nat} {ρ : RP} {R : SB} {at_ : Int}
theorem so_ne (hB : pB tp n ρ) (hat : ρ.2.2.1 ≠ 0 → (ρ.2.2.2 < at_ ∨ (ρ.2.2.2 = at_ ∧ ρ.2.2.1 ≤ 3))) (hf : (oneS tp n ρ R).1.2.2.1 ≠ 0) : (soS tp n ρ R at_).1 = (nuS tp n (nuS tp n (oneS tp n ρ R).1 0 99).1 1 9).1 := by
  unfold soS
  dsimp only
  split
  · rfl
  · next hc =>
    split
    · have hc1 : (nuS tp n (nuS tp n (oneS tp n ρ R).1 0 99).1 1 9).1.1 = false := by
        cases hx : (nuS tp n (nuS tp n (oneS tp n ρ R).1 0 99).1 1 9).1.1 with
        | true => exact absurd (Or.inl hx) hc
        | false => rfl
      have hg : (oneS tp n ρ R).2.1 = true := Classical.byContradiction fun z => hc (Or.inr z)
      have k2 : (oneS tp n ρ R).1 = nxS ρ := (nuS_g (lo := 0) (hi := R 1 - 1) hg).2.1
      have pB1 : pB tp n (oneS tp n ρ R).1 := pB_nu hB
      have hv1 : (nuS tp n (oneS tp n ρ R).1 0 99).1.1 = false := by
        cases hx : (nuS tp n (oneS tp n ρ R).1 0 99).1.1 with
        | true =>
          rw [nu_w hx, hx] at hc1
          cases hc1
        | false => rfl
      have e1 := so_nu hf pB1 hv1
      have e2 := so_nu (by rw [e1]; exact hf) (pB_nu pB1) hc1
      have e3 : (oneS tp n ρ R).1.2.2 = ρ.2.2 := by rw [k2]; rfl
      have f0 : ρ.2.2.1 ≠ 0 := by
        rw [e3] at hf
        exact hf
      show alS (nuS tp n (nuS tp n (oneS tp n ρ R).1 0 99).1 1 9).1 3 at_ = _
      refine alS_f ?_ ?_
      · rw [e2, e1, e3]
        exact f0
      · rw [e2, e1, e3]
        exact hat f0
    · rfl
theorem so_full (hw1 : (oneS tp n ρ R).1.1 = false) (hf1 : (oneS tp n ρ R).1.2.2.1 = 0) (hg : (oneS tp n ρ R).2.1 = true) (h3 : R (80 + (oneS tp n ρ R).2.2.toNat) = 3) (hlt : at_ < ((tkW tp n (oneS tp n ρ R).1.2.1 : Nat) : Int)) : (soS tp n ρ R at_).1 = (nuS tp n (nuS tp n (alS (oneS tp n ρ R).1 3 at_) 0 99).1 1 9).1 := by
  have s0 : sim tp n at_ (oneS tp n ρ R).1 (alS (oneS tp n ρ R).1 3 at_) := by
    rw [alS_0 hw1 hf1]
    exact ⟨rfl, rfl, fun z => (by rw [hw1] at z; cases z), fun _ => ⟨rfl, rfl, Or.inl hf1, hlt⟩⟩
  have s2 := sim_end (sim_nu (lo := 1) (hi := 9) (sim_nu (lo := 0) (hi := 99) s0))
  have cs : (nuS tp n (nuS tp n (oneS tp n ρ R).1 0 99).1 1 9).1.1 = true ∨ (nuS tp n (nuS tp n (oneS tp n ρ R).1 0 99).1 1 9).1.1 = false := by
    cases (nuS tp n (nuS tp n (oneS tp n ρ R).1 0 99).1 1 9).1.1 with
    | true => exact Or.inl rfl
    | false => exact Or.inr rfl
  unfold soS
  dsimp only
  rcases cs with hx | hx
  · rw [if_pos (Or.inl hx)]
    exact s2.1 hx
  · have nc : ¬ ((nuS tp n (nuS tp n (oneS tp n ρ R).1 0 99).1 1 9).1.1 = true ∨ ¬ (oneS tp n ρ R).2.1 = true) := by
      rintro (z | z)
      · rw [hx] at z; cases z
      · exact z hg
    rw [if_neg nc, if_pos h3]
    exact s2.2 hx
end Z97a
section Z97
variable {Γ : zC} {Q : zQ} {M : zM} {tp : Nat → Int} {n m : Nat} {ρ : RP} {T R : SB}
theorem c_sortT {v0 : Int} (hv0 : -1 ≤ v0 ∧ v0 ≤ 9999) (hR : cR M tp n m ρ) (hB : pB tp n ρ) (hC : cS M 12 T) (hW : WK T) (hg : (nuS tp n (nuS tp n ρ 0 99).1 1 9).1.1 = false → (nuS tp n (nuS tp n ρ 0 99).1 1 9).1.2.2.1 = 0 → ∃ a s : Nat, v0 = (a : Int) ∧ (a : Int) < T 1 ∧ T (80 + a) = (s : Int) ∧ s < 3) (h : ∀ (M' : zM) (T' : SB), Off oL M M' → cR M' tp n m (finS tp n (nuS tp n (nuS tp n ρ 0 99).1 1 9).1) → cS M' 12 T' → WK T' → ((finS tp n (nuS tp n (nuS tp n ρ 0 99).1 1 9).1).1 = false → (finS tp n (nuS tp n (nuS tp n ρ 0 99).1 1 9).1).2.2.1 = 0 → ∃ a s : Nat, v0 = (a : Int) ∧ T (80 + a) = (s : Int) ∧ T' = upS (upS (upS T (87 + 6 * a + 2 * s) (nuS tp n ρ 0 99).2.2) (88 + 6 * a + 2 * s) (nuS tp n (nuS tp n ρ 0 99).1 1 9).2.2) (80 + a) ((s : Int) + 1)) → Q none M') : (zEv Γ 83 [zo 5 0 0, zi (0 : Int32), zi (99 : Int32)] M (fun o M3 => ∃ r3, o = some (zi r3) ∧ (zEv Γ 83 [zo 5 0 0, zi (1 : Int32), zi (9 : Int32)] M3 (fun o M4 => ∃ r4, o = some (zi r4) ∧ (zEv Γ 84 [zo 5 0 0] M4 (fun o M5 => o = none ∧ ((¬ (M5.1 5 0 0 1) = 0 → Q none M5) ∧ ((M5.1 5 0 0 1) = 0 → (zEv Γ 103 [zo 7 12 0, zi (iz v0)] M5 (fun o M6 => ∃ r6, o = some (zi r6) ∧ ((r6 = 0 → Q none M6) ∧ (¬ r6 = 0 → (vp_in (iz v0) 7 ∧ (((3 : Int32) ≤ (M6.1 7 12 11 ((iz v0)).toNatClampNeg) → Q none M6) ∧ (¬ (3 : Int32) ≤ (M6.1 7 12 11 ((iz v0)).toNatClampNeg) → (vp_in (iz v0) 7 ∧ (vp_in (((iz v0) * (3 : Int32)) + (M6.1 7 12 11 ((iz v0)).toNatClampNeg)) 21 ∧ (vp_in (((iz v0) * (3 : Int32)) + (M6.1 7 12 11 ((iz v0)).toNatClampNeg)) 21 ∧ (vp_in (iz v0) 7 ∧ (vp_in (iz v0) 7 ∧ Q none (zw (zw (zw M6 7 12 12 ((((iz v0) * (3 : Int32)) + (M6.1 7 12 11 ((iz v0)).toNatClampNeg))).toNatClampNeg r3) 7 12 13 ((((iz v0) * (3 : Int32)) + (M6.1 7 12 11 ((iz v0)).toNatClampNeg))).toNatClampNeg r4) 7 12 11 ((iz v0)).toNatClampNeg (((zw (zw M6 7 12 12 ((((iz v0) * (3 : Int32)) + (M6.1 7 12 11 ((iz v0)).toNatClampNeg))).toNatClampNeg r3) 7 12 13 ((((iz v0) * (3 : Int32)) + (M6.1 7 12 11 ((iz v0)).toNatClampNeg))).toNatClampNeg r4).1 7 12 11 ((iz v0)).toNatClampNeg) + (1 : Int32))))))))))))))))))))))) := by
  have t1 : 0 ≤ T 1 ∧ T 1 ≤ 7 := hW.r (by omega) ⟨rfl, rfl⟩
  refine c_takeNumber (la := 0) (ha := 99) (lo := 0) (hi := 99) hR hB (by omega) (by omega) (fun _ _ => ⟨rfl, rfl⟩) (fun M3 v o1 R1 v1 v2 g => ⟨_, rfl, ?_⟩)
  refine c_takeNumber (la := 1) (ha := 9) (lo := 1) (hi := 9) R1 (pB_nu hB) (by omega) (by omega) (fun _ _ => ⟨rfl, rfl⟩) (fun M4 w o2 R2 w1 w2 g2 => ⟨_, rfl, ?_⟩)
  refine c_stop R2 (fun M5 o3 R3 f3 => h M5 T (oC_L ((o1.tr o2).tr o3)) R3 (cS_oc hC ((o1.tr o2).tr o3)) hW (fun _ z => absurd z f3)) (fun M5 o3 R3 z3 f3 e3 => ?_)
  have oo := (o1.tr o2).tr o3
  have hC3 := cS_oc hC oo
  have q2 := nu_0 z3 f3
  have ew := (g2 z3 f3).2
  have ev := (g q2.1 q2.2.1).2
  have q1 := nu_0 q2.1 q2.2.1
  obtain ⟨a, s, rfl, ha, hs, hs3⟩ := hg z3 f3
  rw [← ev, ← ew] at h
  have vb := q1.2.2.2.2.2
  have wb := q2.2.2.2.2.2
  rw [← ev] at vb
  rw [← ew] at wb
  have e11 : M5.1 7 12 11 a = iz (s : Int) := by rw [hC3.2.2.2.2.2.2.2.1 a (by omega), hs]
  refine c_hasBidder0 t1 hC3 (fun z => ?_) (fun i hi0 hx => ⟨_, rfl, fun z => absurd z (by decide), fun _ => ?_⟩)
  · rw [iz_toInt (by omega) (by omega)] at z
    omega
  · rw [iz_clN (by omega), e11, show (3 : Int32) = iz 3 from rfl, iz_le (by omega) (by omega) (by omega) (by omega), iz_mul, iz_add, show (a : Int) * 3 + (s : Int) = ((3 * a + s : Nat) : Int) by omega, iz_clN (by omega)]
    have e11' : (zw (zw M5 7 12 12 (3 * a + s) (iz v)) 7 12 13 (3 * a + s) (iz w)).1 7 12 11 a = iz (s : Int) := ((zw_ne (by omega)).trans (zw_ne (by omega))).trans e11
    rw [e11', iz1, iz_add]
    have i7 : vp_in (iz (a : Int)) 7 := iz_inN (by omega) (by omega)
    have i21 : vp_in (iz ((3 * a + s : Nat) : Int)) 21 := iz_inN (by omega) (by omega)
    exact ⟨i7, fun z => by omega, fun z => ⟨i7, i21, i21, i7, i7, h _ _ ((((oC_L oo).w _ (Or.inr ⟨rfl, rfl⟩)).w _ (Or.inr ⟨rfl, rfl⟩)).w _ (Or.inr ⟨rfl, rfl⟩)) (cR_w7 (cR_w7 (cR_w7 R3))) (cS_sort hC3 (by omega) hs hs3) (WK_sort hW (by omega) hs hs3 vb wb) (fun _ _ => ⟨a, s, rfl, hs, rfl⟩)⟩⟩
theorem c_readSort {at_ : Int} (hw : ρ.1 = false) (hL : cRL M tp n m ρ T R) (hat : ρ.2.2.1 ≠ 0 → (ρ.2.2.2 < at_ ∨ (ρ.2.2.2 = at_ ∧ ρ.2.2.1 ≤ 3))) (hlt : at_ < ((tkW tp n ρ.2.1 : Nat) : Int)) (h : ∀ (M' : zM) (T' : SB), Off oL M M' → cRL M' tp n m (finS tp n (soS tp n ρ R at_).1) T' (soS tp n ρ R at_).2 → Q none M') : zEv Γ 75 [zo 5 0 0, zi (iz at_)] M Q := by
  obtain ⟨hR, hB, hC, hW, hE⟩ := hL
  have t1 : 0 ≤ T 1 ∧ T 1 ≤ 7 := hW.r (by omega) ⟨rfl, rfl⟩
  have pB1 : pB tp n (oneS tp n ρ R).1 := pB_nu hB
  refine en_75 (bk_75_0 (c_takeBidder hR hB (hC.1 1 (by omega)) t1 (fun z1 z2 => by rw [hE z1 z2]) (fun M1 v0 o1 R1 v1 v2 g => ⟨_, rfl, ?_⟩)))
  have hC1 := cS_oc hC o1
  have gd : (oneS tp n ρ R).1.2.2.1 = 0 → (oneS tp n ρ R).1.1 = false := fun z => by
    cases hx : (oneS tp n ρ R).1.1 with
    | true =>
      have := R1.2.2.2.2.mp hx
      omega
    | false => rfl
  -- a fault stands already: nothing is written
  have ne : (oneS tp n ρ R).1.2.2.1 ≠ 0 → ∀ (M' : zM) (T' : SB), Off oL M1 M' → cR M' tp n m (finS tp n (nuS tp n (nuS tp n (oneS tp n ρ R).1 0 99).1 1 9).1) → cS M' 12 T' → WK T' → Q none M' := fun f1 M' T' o r c w => by
    have e := so_ne (R := R) hB hat f1
    refine h M' T' ((oC_L o1).tr o) ⟨by rw [e]; exact r, by rw [e]; exact pB_fin (pB_nu (pB_nu pB1)), c, w, fun z1 z2 => ?_⟩
    rw [e] at z1 z2
    have q3 := fin_0 z1
    rw [q3.2.1] at z2
    have q2 := nu_0 q3.1 z2
    exact absurd (nu_0 q2.1 q2.2.1).2.1 f1
  have ng : (oneS tp n ρ R).1.2.2.1 ≠ 0 → (nuS tp n (nuS tp n (oneS tp n ρ R).1 0 99).1 1 9).1.1 = false → (nuS tp n (nuS tp n (oneS tp n ρ R).1 0 99).1 1 9).1.2.2.1 = 0 → ∃ a s : Nat, v0 = (a : Int) ∧ (a : Int) < T 1 ∧ T (80 + a) = (s : Int) ∧ s < 3 := fun f1 z1 z2 => by
    have q2 := nu_0 z1 z2
    exact absurd (nu_0 q2.1 q2.2.1).2.1 f1
  refine c_hasBidder0 t1 hC1 (fun z => ⟨_, rfl, fun _ => ?_, fun z' => absurd rfl z'⟩) (fun i hi0 hx => ⟨_, rfl, fun z => absurd z (by decide), fun _ => ?_⟩)
  · have f1 : (oneS tp n ρ R).1.2.2.1 ≠ 0 := fun f0 => by
      have w0 := gd f0
      have ev := (g w0 f0).2
      have q1 := nu_0 (tp := tp) (n := n) (ρ := ρ) (lo := 0) (hi := R 1 - 1) w0 f0
      have eT := hE q1.1 q1.2.1
      have b1 : 0 ≤ (oneS tp n ρ R).2.2 ∧ (oneS tp n ρ R).2.2 ≤ R 1 - 1 := q1.2.2.2.2.2
      rw [iz_toInt (by omega) (by omega), eT] at z
      omega
    exact c_sortT ⟨v1, v2⟩ R1 pB1 hC1 hW (ng f1) (fun M' T' o r c w _ => ne f1 M' T' o r c w)
  · have e0 : v0 = (i : Int) := by
      have := hx
      rw [iz_eq (by omega) (by omega) (by omega) (by omega)] at this
      exact this
    subst e0
    have sb := hW.r (k := 80 + i) (by omega) (lh80 (by omega))
    obtain ⟨s, hs⟩ := Int.eq_ofNat_of_zero_le sb.1
    have ec : ((M1.1 7 12 11 (iz (i : Int)).toNatClampNeg) < 3) = ((s : Int) < 3) := by
      rw [iz_clN (by omega), hC1.2.2.2.2.2.2.2.1 i (by omega), hs, show (3 : Int32) = iz 3 from rfl, iz_lt (by omega) (by omega) (by omega) (by omega)]
    rw [ec]
    refine ⟨iz_inN (by omega) (by omega), fun z3 => ?_, fun z3 => ?_⟩
    · by_cases f1 : (oneS tp n ρ R).1.2.2.1 = 0
      · have w1 := gd f1
        obtain ⟨gg, ev⟩ := g w1 f1
        have q1 := nu_0 (tp := tp) (n := n) (ρ := ρ) (lo := 0) (hi := R 1 - 1) w1 f1
        have eT := hE q1.1 q1.2.1
        subst eT
        have ei : (oneS tp n ρ T).2.2.toNat = i := by rw [← ev]; omega
        have e1 : (soS tp n ρ T at_).1 = (nuS tp n (nuS tp n (oneS tp n ρ T).1 0 99).1 1 9).1 := by
          unfold soS
          dsimp only
          split
          · rfl
          · rw [if_neg (by rw [ei, hs]; omega)]
        refine c_sortT ⟨v1, v2⟩ R1 pB1 hC1 hW (fun _ _ => ⟨i, s, rfl, hi0, hs, by omega⟩) (fun M' T' o r c w gt => h M' T' ((oC_L o1).tr o) ⟨by rw [e1]; exact r, by rw [e1]; exact pB_fin (pB_nu (pB_nu pB1)), c, w, fun y1 y2 => ?_⟩)
        rw [e1] at y1 y2
        obtain ⟨a, s', ha, hs', eT'⟩ := gt y1 y2
        have q3 := fin_0 y1
        have ea : a = i := by omega
        subst ea
        have es : s' = s := by rw [hs] at hs'; omega
        subst es
        rw [eT']
        unfold soS
        dsimp only
        rw [if_neg (by rintro (y | y); rw [q3.1] at y; cases y; exact y gg), if_neg (by rw [ei, hs]; omega), ei, hs, show ((s' : Int)).toNat = s' by omega]
      · exact c_sortT ⟨v1, v2⟩ R1 pB1 hC1 hW (ng f1) (fun M' T' o r c w _ => ne f1 M' T' o r c w)
    · by_cases f1 : (oneS tp n ρ R).1.2.2.1 = 0
      · have w1 := gd f1
        obtain ⟨gg, ev⟩ := g w1 f1
        have q1 := nu_0 (tp := tp) (n := n) (ρ := ρ) (lo := 0) (hi := R 1 - 1) w1 f1
        have eT := hE q1.1 q1.2.1
        subst eT
        have ei : (oneS tp n ρ T).2.2.toNat = i := by rw [← ev]; omega
        have ek : (oneS tp n ρ T).1 = nxS ρ := q1.2.2.2.1
        have hlt1 : at_ < ((tkW tp n (oneS tp n ρ T).1.2.1 : Nat) : Int) := by
          rw [ek]
          have := W_le (tp := tp) (n := n) (k := ρ.2.1)
          show at_ < ((tkW tp n (ρ.2.1 + 1) : Nat) : Int)
          omega
        have e1 := so_full (at_ := at_) w1 f1 gg (by rw [ei, hs]; omega) hlt1
        refine c_note (kd := 3) R1 (by omega) (fun _ y => absurd f1 y) (fun M2 o2 R2 => ⟨rfl, ?_⟩)
        have fa : (alS (oneS tp n ρ T).1 3 at_).2.2.1 ≠ 0 := by
          rw [alS_0 w1 f1]
          show ¬ (3 : Int) = 0
          omega
        refine c_sortT ⟨v1, v2⟩ R2 (pB_al pB1 hlt1) (cS_oc hC1 o2) hW (fun y1 y2 => ?_) (fun M' T' o r c w _ => h M' T' (((oC_L o1).tr (oC_L o2)).tr o) ⟨by rw [e1]; exact r, by rw [e1]; exact pB_fin (pB_nu (pB_nu (pB_al pB1 hlt1))), c, w, fun y1 y2 => ?_⟩)
        · have q2 := nu_0 y1 y2
          exact absurd (nu_0 q2.1 q2.2.1).2.1 fa
        · rw [e1] at y1 y2
          have q3 := fin_0 y1
          rw [q3.2.1] at y2
          have q2 := nu_0 q3.1 y2
          exact absurd (nu_0 q2.1 q2.2.1).2.1 fa
      · exact c_note0 R1 f1 ⟨rfl, c_sortT ⟨v1, v2⟩ R1 pB1 hC1 hW (ng f1) (fun M' T' o r c w _ => ne f1 M' T' o r c w)⟩
end Z97
