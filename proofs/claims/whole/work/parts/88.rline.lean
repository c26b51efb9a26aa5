/-! the reference reads lines, as functions -/
def RB (R : SB) : Prop := (0 ≤ R 0 ∧ R 0 ≤ 6) ∧ (0 ≤ R 1 ∧ R 1 ≤ 7) ∧ (∀ j, j < 6 → 0 ≤ R (4 + j) ∧ R (4 + j) ≤ 99) ∧ ∀ i, i < 7 → 0 ≤ R (80 + i) ∧ R (80 + i) ≤ 3
def rRd (M : zM) (R : SB) : Prop := ∀ k, k < 240 → M.1 10 0 11 k = iz (R k)
def oneS (tp : Nat → Int) (n : Nat) (ρ : RP) (R : SB) : RP × Bool × Int := nuS tp n ρ 0 (R 1 - 1)
def twS (tp : Nat → Int) (n : Nat) (ρ : RP) (R : SB) : RP × Int :=
  if (oneS tp n ρ R).2.1 = true ∧ (oneS tp n (oneS tp n ρ R).1 R).2.1 = true then
    (if (oneS tp n ρ R).2.2 = (oneS tp n (oneS tp n ρ R).1 R).2.2 then (alS (oneS tp n (oneS tp n ρ R).1 R).1 2 ((tkW tp n (oneS tp n ρ R).1.2.1 : Nat) : Int), -1) else ((oneS tp n (oneS tp n ρ R).1 R).1, 7 * (oneS tp n ρ R).2.2 + (oneS tp n (oneS tp n ρ R).1 R).2.2))
  else ((oneS tp n (oneS tp n ρ R).1 R).1, -1)
def moS (tp : Nat → Int) (n : Nat) (ρ : RP) : RP × Int :=
  if ρ.1 = true ∨ ¬ (tkK tp n ρ.2.1 = 24 ∨ tkK tp n ρ.2.1 = 25) then (edS tp n ρ, 0) else ((nuS tp n (nxS ρ) 0 999).1, if tkK tp n ρ.2.1 = 24 then (nuS tp n (nxS ρ) 0 999).2.2 else -(nuS tp n (nxS ρ) 0 999).2.2)
def full (ρ : RP) (b : Prop) [Decidable b] (at_ : Int) : RP := if b then alS ρ 3 at_ else ρ
def boS (tp : Nat → Int) (n : Nat) (ρ : RP) (R : SB) (at_ : Int) : RP × SB :=
  if (nuS tp n (full ρ (R 0 = 6) at_) 0 99).1.1 = true ∨ R 0 = 6 then ((nuS tp n (full ρ (R 0 = 6) at_) 0 99).1, R)
  else ((if (nuS tp n ρ 0 99).2.1 = true ∧ 0 < R 0 ∧ R (4 + ((R 0).toNat - 1)) < (nuS tp n ρ 0 99).2.2 then alS (nuS tp n ρ 0 99).1 4 ((tkW tp n ρ.2.1 : Nat) : Int) else (nuS tp n ρ 0 99).1), upS (upS R (4 + (R 0).toNat) (nuS tp n ρ 0 99).2.2) 0 (R 0 + 1))
def biS (tp : Nat → Int) (n : Nat) (ρ : RP) (R : SB) (at_ : Int) : RP × SB :=
  if (nuS tp n (nuS tp n (full ρ (R 1 = 7) at_) 0 99).1 0 99).1.1 = true ∨ R 1 = 7 then ((nuS tp n (nuS tp n (full ρ (R 1 = 7) at_) 0 99).1 0 99).1, R)
  else ((nuS tp n (nuS tp n ρ 0 99).1 0 99).1, upS (upS (upS R (10 + (R 1).toNat) (nuS tp n ρ 0 99).2.2) (17 + (R 1).toNat) (nuS tp n (nuS tp n ρ 0 99).1 0 99).2.2) 1 (R 1 + 1))
theorem alS_k (ρ : RP) (a b : Int) : (alS ρ a b).1 = ρ.1 ∧ (alS ρ a b).2.1 = ρ.2.1 := by
  unfold alS
  split <;> exact ⟨rfl, rfl⟩
theorem nuS_v {tp : Nat → Int} {n : Nat} {ρ : RP} {lo hi : Int} (h : lo ≤ hi) : lo ≤ (nuS tp n ρ lo hi).2.2 ∧ (nuS tp n ρ lo hi).2.2 ≤ hi := by
  unfold nuS
  split
  · exact ⟨Int.le_refl lo, h⟩
  · split
    · next h2 => exact h2
    · exact ⟨Int.le_refl lo, h⟩
theorem nuS_one {tp : Nat → Int} {n : Nat} {ρ : RP} {hi : Int} (h : -1 ≤ hi) : 0 ≤ (nuS tp n ρ 0 hi).2.2 ∧ ((nuS tp n ρ 0 hi).2.2 ≤ hi ∨ (nuS tp n ρ 0 hi).2.2 = 0) := by
  unfold nuS
  split
  · simp
  · split
    · next h2 => exact ⟨h2.1, Or.inl h2.2⟩
    · simp
theorem nuS_g {tp : Nat → Int} {n : Nat} {ρ : RP} {lo hi : Int} (h : (nuS tp n ρ lo hi).2.1 = true) : ρ.1 = false ∧ (nuS tp n ρ lo hi).1 = nxS ρ ∧ (lo ≤ (nuS tp n ρ lo hi).2.2 ∧ (nuS tp n ρ lo hi).2.2 ≤ hi) := by
  unfold nuS at h ⊢
  by_cases h1 : ρ.1 = true ∨ tkK tp n ρ.2.1 ≠ 1
  · rw [if_pos h1] at h
    cases h
  · rw [if_neg h1] at h ⊢
    by_cases h2 : lo ≤ tkN tp n ρ.2.1 ∧ tkN tp n ρ.2.1 ≤ hi
    · rw [if_pos h2]
      exact ⟨by cases hb : ρ.1; rfl; exact absurd (Or.inl hb) h1, rfl, h2⟩
    · rw [if_neg h2] at h
      cases h
section Z88
variable {Γ : zC} {Q : zQ} {M : zM} {tp : Nat → Int} {n : Nat} {ρ : RP} {R : SB}
theorem rRd.off {P : Nat → Nat → Nat → Nat → Prop} {M M' : zM} (h : rRd M R) (ho : Off P M M') (hP : ∀ i, ¬ P 10 0 11 i) : rRd M' R := fun k hk => (ho.1 _ _ _ _ (hP k)).trans (h k hk)
theorem rRd.rd {M M' : zM} (h : rRd M R) (ho : Off oRd M M') : rRd M' R := h.off ho (by unfold oRd; intro i; omega)
theorem rRd.en {M M' : zM} (h : rRd M R) (ho : Off oEn M M') : rRd M' R := h.off ho (by unfold oEn; intro i; omega)
theorem rRd.w {M : zM} (h : rRd M R) {k : Nat} {v : Int} (hk : k < 240) : rRd (zw M 10 0 11 k (iz v)) (upS R k v) := fun j hj => by
  unfold upS
  by_cases e : j = k
  · rw [e, zw_eq, if_pos rfl]
  · rw [zw_ne (by omega), if_neg e]
    exact h j hj
theorem rSt.w {M : zM} (h : rSt M tp n ρ) {k : Nat} {v : Int32} : rSt (zw M 10 0 11 k v) tp n ρ := h.off (P := fun c t f _ => c = 10 ∧ t = 0 ∧ f = 11) ((Off.rf M).w _ ⟨rfl, rfl, rfl⟩) (by intro i _ _; omega) (by intro i _ _ _; omega)
theorem r_oneBidder (hR : rSt M tp n ρ) (hr : rRd M R) (hB : RB R) (h : ∀ M', Off oRd M M' → rSt M' tp n (oneS tp n ρ R).1 → M'.1 10 0 0 11 = iz (if (oneS tp n ρ R).2.1 = true then 1 else 0) → Q (some (zi (iz (oneS tp n ρ R).2.2))) M') : zEv Γ 168 [zo 10 0 0] M Q := by
  have h1 := hB.2.1
  refine en_168 (bk_168_0 ⟨by unfold vp_in; decide, ?_⟩)
  have e1 : M.1 10 0 11 (1 : Int32).toNatClampNeg = iz (R 1) := hr 1 (by omega)
  rw [e1, iz1, iz_sub]
  exact r_numbered (lo := 0) hR (by omega) (by omega) (fun M' o r g => ⟨_, rfl, h M' o r g⟩)
theorem r_twoBidders (hR : rSt M tp n ρ) (hr : rRd M R) (hB : RB R) (h : ∀ M', Off oRd M M' → rSt M' tp n (twS tp n ρ R).1 → Q (some (zi (iz (twS tp n ρ R).2))) M') : zEv Γ 169 [zo 10 0 0] M Q := by
  have h1 := hB.2.1
  have hn := hR.1.2.1
  refine en_169 (bk_169_0 (r_oneBidder hR hr hB (fun M1 o1 R1 g1 => ⟨_, rfl, r_oneBidder R1 (hr.rd o1) hB (fun M2 o2 R2 g2 => ⟨_, rfl, ?_⟩)⟩)))
  have v1 := nuS_one (tp := tp) (n := n) (ρ := ρ) (hi := R 1 - 1) (by omega)
  have v2 := nuS_one (tp := tp) (n := n) (ρ := (oneS tp n ρ R).1) (hi := R 1 - 1) (by omega)
  have b1 : 0 ≤ (oneS tp n ρ R).2.2 ∧ (oneS tp n ρ R).2.2 ≤ 6 := by unfold oneS; omega
  have b2 : 0 ≤ (oneS tp n (oneS tp n ρ R).1 R).2.2 ∧ (oneS tp n (oneS tp n ρ R).1 R).2.2 ≤ 6 := by
    show 0 ≤ (nuS tp n (oneS tp n ρ R).1 0 (R 1 - 1)).2.2 ∧ (nuS tp n (oneS tp n ρ R).1 0 (R 1 - 1)).2.2 ≤ 6
    omega
  unfold twS at h
  rw [g1, g2, iz_eq (by omega) (by omega) (by omega) (by omega)]
  cases hg1 : (oneS tp n ρ R).2.1 with
  | false =>
    rw [if_neg (by rw [hg1]; simp)] at h
    have := h M2 (o1.tr o2) R2
    exact ⟨fun _ => ⟨fun _ => ⟨fun _ => this, fun z => absurd rfl z⟩, fun z => absurd rfl z⟩, fun z => absurd rfl z⟩
  | true =>
    refine ⟨fun z => absurd z (by decide), fun _ => ?_⟩
    cases hg2 : (oneS tp n (oneS tp n ρ R).1 R).2.1 with
    | false =>
      rw [if_neg (by rw [hg2]; simp)] at h
      have := h M2 (o1.tr o2) R2
      exact ⟨fun _ => ⟨fun _ => ⟨fun _ => this, fun z => absurd rfl z⟩, fun z => absurd rfl z⟩, fun z => absurd rfl z⟩
    | true =>
      rw [if_pos ⟨hg1, hg2⟩] at h
      have k2 := nuS_g (tp := tp) (n := n) (ρ := (oneS tp n ρ R).1) (lo := 0) (hi := R 1 - 1) hg2
      have w1 := (R1.2.2.2.2 k2.1).1
      have hs := tkW_le (tp := tp) (n := n) (k := (oneS tp n ρ R).1.2.1)
      refine ⟨fun z => absurd z (by decide), fun _ => ⟨fun z => absurd z (by decide), fun _ => ⟨fun q => ⟨fun z => absurd z (by decide), fun _ => ⟨fun z => absurd z q, fun _ => ?_⟩⟩, fun q => ?_⟩⟩⟩
      · rw [if_neg q] at h
        rw [show (7 : Int32) = iz 7 from rfl, iz_mul, iz_add]
        exact h M2 (o1.tr o2) R2
      · rw [if_pos q] at h
        rw [w1]
        refine r_also (kd := 2) R2 (by omega) (by omega) (fun M3 o3 R3 => ⟨rfl, fun z => absurd z (by decide), fun _ => ⟨fun _ => ?_, fun z => absurd q z⟩⟩)
        exact h M3 ((o1.tr o2).tr (o3.wk (by unfold oEn oRd; intro c t f i; omega))) R3
theorem r_adv1 (hR : rSt M tp n ρ) (hw : ρ.1 = false) (h : ∀ M', Off oAd M M' → rSt M' tp n (nxS ρ) → Q none M') : zEv Γ 164 [zo 10 0 0] M Q := by
  refine r_advance (k := ρ.2.1 + 1) hR.1 (hR.2.2.2.2 hw).2.2.2.2 (fun M3 o3 t3 => h M3 o3 ⟨hR.1.off o3 (by unfold oAd; omega) (by unfold oAd; intro p _; omega), (o3.1 _ _ _ _ (by unfold oAd; omega)).trans hR.2.1, ⟨(o3.1 _ _ _ _ (by unfold oAd; omega)).trans hR.2.2.1.1, hR.2.2.1.2⟩, ⟨(o3.1 _ _ _ _ (by unfold oAd; omega)).trans hR.2.2.2.1.1, hR.2.2.2.1.2⟩, fun _ => t3⟩)
theorem oAd_rd {c t f i : Nat} (h : oAd c t f i) : oRd c t f i := by
  unfold oAd at h
  unfold oRd
  omega
theorem oEn_rd {c t f i : Nat} (h : oEn c t f i) : oRd c t f i := by
  unfold oEn at h
  unfold oRd
  omega
/-- the token's fields say its kind -/
theorem tk_w (hR : rSt M tp n ρ) (hw : ρ.1 = false) : (M.1 10 0 0 5 = 3 ↔ 11 ≤ tkK tp n ρ.2.1) ∧ (M.1 10 0 0 5 = 2 ↔ tkK tp n ρ.2.1 = 2) ∧ (11 ≤ tkK tp n ρ.2.1 → M.1 10 0 0 7 = iz (rwk (tkK tp n ρ.2.1))) ∧ (M.1 10 0 0 5 = 0 ↔ tkK tp n ρ.2.1 = 0) := by
  have T := hR.2.2.2.2 hw
  have kb := tkK_b (tp := tp) (n := n) (k := ρ.2.1)
  have rb : 0 ≤ rtk (tkK tp n ρ.2.1) ∧ rtk (tkK tp n ρ.2.1) ≤ 4 ∧ (rtk (tkK tp n ρ.2.1) = 3 ↔ 11 ≤ tkK tp n ρ.2.1) ∧ (rtk (tkK tp n ρ.2.1) = 2 ↔ tkK tp n ρ.2.1 = 2) ∧ (rtk (tkK tp n ρ.2.1) = 0 ↔ tkK tp n ρ.2.1 = 0) := by
    unfold rtk
    split
    · omega
    · split <;> omega
  rw [T.2.1, show (3 : Int32) = iz 3 from rfl, show (2 : Int32) = iz 2 from rfl, iz0, iz_eq (by omega) (by omega) (by omega) (by omega), iz_eq (by omega) (by omega) (by omega) (by omega), iz_eq (by omega) (by omega) (by omega) (by omega)]
  exact ⟨rb.2.2.1, rb.2.2.2.1, T.2.2.2.1, rb.2.2.2.2⟩
theorem r_moreOrLess (hR : rSt M tp n ρ) (h : ∀ M', Off oRd M M' → rSt M' tp n (moS tp n ρ).1 → Q (some (zi (iz (moS tp n ρ).2))) M') : zEv Γ 170 [zo 10 0 0] M Q := by
  unfold moS at h
  have bad : (ρ.1 = true ∨ ¬ (tkK tp n ρ.2.1 = 24 ∨ tkK tp n ρ.2.1 = 25)) → zEv Γ 165 [zo 10 0 0] M (fun o M1 => o = none ∧ Q (some (zi 0)) M1) := fun z => by
    rw [if_pos z] at h
    exact r_ends hR (fun M1 o1 r1 => ⟨rfl, h M1 (o1.wk fun _ _ _ _ => oEn_rd) r1⟩)
  refine en_170 (bk_170_0 ?_)
  rw [hR.2.1]
  cases hw : ρ.1 with
  | true => exact ⟨fun _ => bad (Or.inl hw), fun z => absurd z (by decide)⟩
  | false =>
    have tw := tk_w hR hw
    have kb := tkK_b (tp := tp) (n := n) (k := ρ.2.1)
    refine ⟨fun z => absurd rfl z, fun _ => ⟨fun q => bad (Or.inr (fun z => q (tw.1.mpr (by omega)))), fun q => ?_⟩⟩
    have k11 := tw.1.mp q
    have rb : (rwk (tkK tp n ρ.2.1) = 30 ↔ tkK tp n ρ.2.1 = 24) ∧ (rwk (tkK tp n ρ.2.1) = 31 ↔ tkK tp n ρ.2.1 = 25) ∧ 1 ≤ rwk (tkK tp n ρ.2.1) ∧ rwk (tkK tp n ρ.2.1) ≤ 31 := by
      unfold rwk
      split
      · omega
      · split <;> omega
    rw [tw.2.2.1 k11, show (iz (rwk (tkK tp n ρ.2.1)) = 30) = (tkK tp n ρ.2.1 = 24) by rw [show (30 : Int32) = iz 30 from rfl, iz_eq (by omega) (by omega) (by omega) (by omega)]; exact propext rb.1, show (iz (rwk (tkK tp n ρ.2.1)) = 31) = (tkK tp n ρ.2.1 = 25) by rw [show (31 : Int32) = iz 31 from rfl, iz_eq (by omega) (by omega) (by omega) (by omega)]; exact propext rb.2.1]
    have go : (tkK tp n ρ.2.1 = 24 ∨ tkK tp n ρ.2.1 = 25) → zEv Γ 164 [zo 10 0 0] M (fun o M3 => o = none ∧ zEv Γ 167 [zo 10 0 0, zi 0, zi 999] M3 (fun o M4 => ∃ r4, o = some (zi r4) ∧ ((¬ tkK tp n ρ.2.1 = 24 → Q (some (zi (-r4))) M4) ∧ (tkK tp n ρ.2.1 = 24 → Q (some (zi r4)) M4)))) := fun hk => by
      rw [if_neg (by rintro (z | z); rw [hw] at z; cases z; exact z hk)] at h
      refine r_adv1 hR hw (fun M1 o1 R1 => ⟨rfl, r_numbered (lo := 0) (hi := 999) R1 (by omega) (by omega) (fun M2 o2 R2 _ => ⟨_, rfl, fun z => ?_, fun z => ?_⟩)⟩)
      · have := h M2 ((o1.wk fun _ _ _ _ => oAd_rd).tr o2) R2
        rw [if_neg z] at this
        rw [iz_neg]
        exact this
      · have := h M2 ((o1.wk fun _ _ _ _ => oAd_rd).tr o2) R2
        rw [if_pos z] at this
        exact this
    exact ⟨fun q2 => go (Or.inl q2), fun q2 => ⟨fun q3 => go (Or.inr q3), fun q3 => bad (Or.inr (fun z => by rcases z with z | z; exact q2 z; exact q3 z))⟩⟩
end Z88
