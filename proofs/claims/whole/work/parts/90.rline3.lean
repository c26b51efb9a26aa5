/-! the reference's line -/
def ofS (tp : Nat → Int) (n : Nat) (ρ : RP) (R : SB) (base : Nat) (lo hi : Int) : RP × SB := ((nuS tp n (oneS tp n ρ R).1 lo hi).1, upS R (base + (oneS tp n ρ R).2.2.toNat) (nuS tp n (oneS tp n ρ R).1 lo hi).2.2)
def exB (tp : Nat → Int) (n : Nat) (ρ : RP) (R : SB) : RP × SB := ((moS tp n (nuS tp n (oneS tp n ρ R).1 0 (R 0 - 1)).1).1, upS R (38 + 6 * (oneS tp n ρ R).2.2.toNat + (nuS tp n (oneS tp n ρ R).1 0 (R 0 - 1)).2.2.toNat) (moS tp n (nuS tp n (oneS tp n ρ R).1 0 (R 0 - 1)).1).2)
def two2 (R : SB) (base : Nat) (t v : Int) : SB := if t < 0 then R else upS (upS R (base + t.toNat) v) (base + 7 * (t.toNat % 7) + t.toNat / 7) v
def frB (tp : Nat → Int) (n : Nat) (ρ : RP) (R : SB) : RP × SB := ((moS tp n (twS tp n ρ R).1).1, two2 R 129 (twS tp n ρ R).2 (moS tp n (twS tp n ρ R).1).2)
def foB (tp : Nat → Int) (n : Nat) (ρ : RP) (R : SB) : RP × SB := ((twS tp n ρ R).1, two2 R 178 (twS tp n ρ R).2 1)
def wyB (tp : Nat → Int) (n : Nat) (ρ : RP) (R : SB) : RP × SB := if ρ.1 = true ∨ ¬ (21 ≤ tkK tp n ρ.2.1 ∧ tkK tp n ρ.2.1 ≤ 23) then (edS tp n ρ, R) else (nxS ρ, upS R 2 ((tkK tp n ρ.2.1 : Int) - 21))
def brB (tp : Nat → Int) (n : Nat) (ρ : RP) (R : SB) : RP × SB := ((nuS tp n ρ 0 99).1, upS R 3 (nuS tp n ρ 0 99).2.2)
def bodS (tp : Nat → Int) (n K : Nat) (ρ : RP) (R : SB) (at_ : Int) : RP × SB :=
  if K = 11 then boS tp n ρ R at_ else if K = 12 then biS tp n ρ R at_ else if K = 13 then ofS tp n ρ R 24 1 9 else if K = 14 then ofS tp n ρ R 31 0 9999 else if K = 15 then exB tp n ρ R else if K = 16 then soS tp n ρ R at_ else if K = 17 then frB tp n ρ R else if K = 18 then foB tp n ρ R else if K = 19 then wyB tp n ρ R else brB tp n ρ R
def finS (tp : Nat → Int) (n : Nat) (ρ : RP) : RP := if ρ.1 = true ∨ tkK tp n ρ.2.1 ≠ 2 then edS tp n ρ else nxS ρ
def lnS (tp : Nat → Int) (n : Nat) (ρ : RP) (R : SB) (ln : Nat) : RP × SB :=
  if ρ.1 = true ∨ ¬ (11 ≤ tkK tp n ρ.2.1 ∧ tkK tp n ρ.2.1 ≤ 20) then (edS tp n ρ, R)
  else (finS tp n (bodS tp n (tkK tp n ρ.2.1) (nxS (full ρ (ln = 40) ((tkW tp n ρ.2.1 : Nat) : Int))) R ((tkW tp n ρ.2.1 : Nat) : Int)).1, (bodS tp n (tkK tp n ρ.2.1) (nxS (full ρ (ln = 40) ((tkW tp n ρ.2.1 : Nat) : Int))) R ((tkW tp n ρ.2.1 : Nat) : Int)).2)
theorem edS_w {tp : Nat → Int} {n : Nat} {ρ : RP} (h : ρ.1 = true) : edS tp n ρ = ρ := by unfold edS; rw [if_pos h]
theorem edS_t {tp : Nat → Int} {n : Nat} {ρ : RP} : (edS tp n ρ).1 = true := by
  unfold edS
  split
  · next h => exact h
  · rfl
theorem RB_up {R : SB} (h : RB R) {k : Nat} {v : Int} (hk : k ≠ 0 ∧ k ≠ 1 ∧ (k < 4 ∨ 10 ≤ k) ∧ (k < 80 ∨ 87 ≤ k)) : RB (upS R k v) := by
  obtain ⟨h0, h1, h2, h3⟩ := h
  refine ⟨by rw [upS_n (by omega)]; exact h0, by rw [upS_n (by omega)]; exact h1, fun j hj => by rw [upS_n (by omega)]; exact h2 j hj, fun i hi => by rw [upS_n (by omega)]; exact h3 i hi⟩
theorem full_k {ρ : RP} {b : Prop} [Decidable b] {a : Int} : (full ρ b a).1 = ρ.1 ∧ (full ρ b a).2.1 = ρ.2.1 := by
  unfold full
  split
  · exact alS_k ρ 3 a
  · exact ⟨rfl, rfl⟩
theorem one_b {tp : Nat → Int} {n : Nat} {ρ : RP} {R : SB} (h : RB R) : 0 ≤ (oneS tp n ρ R).2.2 ∧ (oneS tp n ρ R).2.2 ≤ 6 := by
  have h1 := h.2.1
  have v1 := nuS_one (tp := tp) (n := n) (ρ := ρ) (hi := R 1 - 1) (by omega)
  unfold oneS
  omega
theorem tw_b {tp : Nat → Int} {n : Nat} {ρ : RP} {R : SB} (h : RB R) : -1 ≤ (twS tp n ρ R).2 ∧ (twS tp n ρ R).2 ≤ 48 := by
  have h1 := one_b (tp := tp) (n := n) (ρ := ρ) h
  have h2 := one_b (tp := tp) (n := n) (ρ := (oneS tp n ρ R).1) h
  unfold twS
  split
  · split
    · simp
    · simp only
      omega
  · simp
theorem RB_bod {tp : Nat → Int} {n K : Nat} {ρ : RP} {R : SB} {at_ : Int} (h : RB R) : RB (bodS tp n K ρ R at_).2 := by
  have h0 := h.1
  have h1 := h.2.1
  have hone := one_b (tp := tp) (n := n) (ρ := ρ) h
  have htw := tw_b (tp := tp) (n := n) (ρ := ρ) h
  unfold bodS
  split
  · unfold boS
    split
    · exact h
    · next hc =>
      have vb := nuS_v (tp := tp) (n := n) (ρ := ρ) (lo := 0) (hi := 99) (by omega)
      have h6 : ¬ R 0 = 6 := fun z => hc (Or.inr z)
      obtain ⟨_, _, h2, h3⟩ := h
      dsimp only
      refine ⟨by rw [upS_e]; omega, by rw [upS_n (by omega), upS_n (by omega)]; exact h1, fun j hj => ?_, fun i hi => by rw [upS_n (by omega), upS_n (by omega)]; exact h3 i hi⟩
      rw [upS_n (by omega)]
      by_cases e : 4 + j = 4 + (R 0).toNat
      · rw [e, upS_e]
        exact vb
      · rw [upS_n e]
        exact h2 j hj
  · split
    · unfold biS
      split
      · exact h
      · next hc =>
        have h7 : ¬ R 1 = 7 := fun z => hc (Or.inr z)
        obtain ⟨_, _, h2, h3⟩ := h
        dsimp only
        refine ⟨by rw [upS_n (by omega), upS_n (by omega), upS_n (by omega)]; exact h0, by rw [upS_e]; omega, fun j hj => by rw [upS_n (by omega), upS_n (by omega), upS_n (by omega)]; exact h2 j hj, fun i hi => by rw [upS_n (by omega), upS_n (by omega), upS_n (by omega)]; exact h3 i hi⟩
    · split
      · exact RB_up h (by omega)
      · split
        · exact RB_up h (by omega)
        · split
          · have v1 := nuS_one (tp := tp) (n := n) (ρ := (oneS tp n ρ R).1) (hi := R 0 - 1) (by omega)
            exact RB_up h (by omega)
          · split
            · unfold soS
              simp only
              split
              · exact h
              · split
                · exact h
                · next hq =>
                  have hsb := h.2.2.2 (oneS tp n ρ R).2.2.toNat (by omega)
                  obtain ⟨_, _, h2, h3⟩ := h
                  dsimp only
                  refine ⟨by rw [upS_n (by omega), upS_n (by omega), upS_n (by omega)]; exact h0, by rw [upS_n (by omega), upS_n (by omega), upS_n (by omega)]; exact h1, fun j hj => by rw [upS_n (by omega), upS_n (by omega), upS_n (by omega)]; exact h2 j hj, fun i hi => ?_⟩
                  by_cases e : 80 + i = 80 + (oneS tp n ρ R).2.2.toNat
                  · rw [e, upS_e]
                    omega
                  · rw [upS_n e, upS_n (by omega), upS_n (by omega)]
                    exact h3 i hi
            · split
              · unfold frB two2
                simp only
                split
                · exact h
                · exact RB_up (RB_up h (by omega)) (by omega)
              · split
                · unfold foB two2
                  simp only
                  split
                  · exact h
                  · exact RB_up (RB_up h (by omega)) (by omega)
                · split
                  · unfold wyB
                    split
                    · exact h
                    · exact RB_up h (by omega)
                  · exact RB_up h (by omega)
theorem RB_ln {tp : Nat → Int} {n ln : Nat} {ρ : RP} {R : SB} (h : RB R) : RB (lnS tp n ρ R ln).2 := by
  unfold lnS
  split
  · exact h
  · exact RB_bod h
section Z90
def oLn (c t f i : Nat) : Prop := c = 10 ∧ t = 0 ∧ (f = 0 ∧ (3 ≤ i ∧ i ≤ 9 ∨ i = 11) ∨ f = 1 ∧ (i = 2 ∨ i = 3) ∨ f = 11)
theorem oRl_ln {c t f i : Nat} (h : oRl c t f i) : oLn c t f i := by
  unfold oRl at h
  unfold oLn
  omega
theorem oRd_ln {c t f i : Nat} (h : oRd c t f i) : oLn c t f i := oRl_ln (oRd_rl h)
variable {Γ : zC} {Q : zQ} {M : zM} {tp : Nat → Int} {n ln : Nat} {ρ : RP} {R : SB}
theorem r_aLine (hR : rSt M tp n ρ) (hr : rRd M R) (hB : RB R) (hl : M.1 10 0 0 9 = iz (ln : Int)) (hln : ln ≤ 600) (h : ∀ M', Off oLn M M' → rSt M' tp n (lnS tp n ρ R ln).1 → rRd M' (lnS tp n ρ R ln).2 → ((lnS tp n ρ R ln).1.1 = false → M'.1 10 0 0 9 = iz ((ln + 1 : Nat) : Int)) → Q none M') : zEv Γ 174 [zo 10 0 0] M Q := by
  have hn := hR.1.2.1
  have h0 := hB.1
  have h1 := hB.2.1
  have hs := tkW_le (tp := tp) (n := n) (k := ρ.2.1)
  unfold lnS at h
  have bad : (ρ.1 = true ∨ ¬ (11 ≤ tkK tp n ρ.2.1 ∧ tkK tp n ρ.2.1 ≤ 20)) → zEv Γ 165 [zo 10 0 0] M (fun o M1 => o = none ∧ Q none M1) := fun z => by
    rw [if_pos z] at h
    exact r_ends hR (fun M1 o1 R1 => ⟨rfl, h M1 (o1.wk fun _ _ _ _ z => oRd_ln (oEn_rd z)) R1 (hr.en o1) (fun y => by rw [edS_t] at y; cases y)⟩)
  refine en_174 (bk_174_0 ?_)
  rw [hR.2.1]
  cases hw : ρ.1 with
  | true => exact ⟨fun _ => bad (Or.inl hw), fun z => absurd z (by decide)⟩
  | false =>
    have tw := tk_w hR hw
    have kb := tkK_b (tp := tp) (n := n) (k := ρ.2.1)
    have T := hR.2.2.2.2 hw
    refine ⟨fun z => absurd rfl z, fun _ => ⟨fun q => bad (Or.inr (fun z => q (tw.1.mpr z.1))), fun q => ?_⟩⟩
    have k11 := tw.1.mp q
    have rb : 1 ≤ rwk (tkK tp n ρ.2.1) ∧ rwk (tkK tp n ρ.2.1) ≤ 31 ∧ (rwk (tkK tp n ρ.2.1) ≤ 10 ↔ tkK tp n ρ.2.1 ≤ 20) := by
      unfold rwk
      split
      · omega
      · split <;> omega
    rw [tw.2.2.1 k11, T.1, hl, show (iz (rwk (tkK tp n ρ.2.1)) ≤ 10) = (tkK tp n ρ.2.1 ≤ 20) by rw [show (10 : Int32) = iz 10 from rfl, iz_le (by omega) (by omega) (by omega) (by omega)]; exact propext rb.2.2, show (iz (ln : Int) = 40) = (ln = 40) by rw [show (40 : Int32) = iz 40 from rfl, iz_eq (by omega) (by omega) (by omega) (by omega)]; exact propext ⟨fun z => by omega, fun z => by omega⟩]
    refine ⟨fun k20 => ?_, fun k20 => bad (Or.inr (fun z => k20 z.2))⟩
    rw [if_neg (by rintro (z | z); rw [hw] at z; cases z; exact z ⟨k11, k20⟩)] at h
    have ew : rwk (tkK tp n ρ.2.1) = (tkK tp n ρ.2.1 : Int) - 10 := by unfold rwk; rw [if_pos k20]
    -- from the switch on
    have rest : ∀ M2 : zM, Off oEn M M2 → rSt M2 tp n (full ρ (ln = 40) ((tkW tp n ρ.2.1 : Nat) : Int)) → zGo Γ 174 Q 51 [some (zo 10 0 0), some (zi (iz (rwk (tkK tp n ρ.2.1)))), some (zi (iz ((tkW tp n ρ.2.1 : Nat) : Int))), none, none, none] [] M2 := by
      intro M2 o2 R2
      have l2 : M2.1 10 0 0 9 = iz (ln : Int) := (o2.1 _ _ _ _ (by unfold oEn; omega)).trans hl
      refine bk_174_51 ?_
      rw [l2, iz_s]
      have R3 : rSt (zw M2 10 0 0 9 (iz ((ln + 1 : Nat) : Int))) tp n (full ρ (ln = 40) ((tkW tp n ρ.2.1 : Nat) : Int)) := R2.off (P := fun c t f i => c = 10 ∧ t = 0 ∧ f = 0 ∧ i = 9) ((Off.rf M2).w _ ⟨rfl, rfl, rfl, rfl⟩) (by intro i _ _; omega) (by intro i _ _ _; omega)
      refine r_adv1 R3 (by rw [full_k.1]; exact hw) (fun M4 o4 R4 => ⟨rfl, ?_⟩)
      have d4 : rRd M4 R := ((hr.en o2).off (P := fun c t f i => c = 10 ∧ t = 0 ∧ f = 0 ∧ i = 9) ((Off.rf M2).w _ ⟨rfl, rfl, rfl, rfl⟩) (by intro i; omega)).rd (o4.wk fun _ _ _ _ => oAd_rd)
      have l4 : M4.1 10 0 0 9 = iz ((ln + 1 : Nat) : Int) := (o4.1 _ _ _ _ (by unfold oAd; omega)).trans zw_eq
      have o4' : Off oLn M M4 := ((o2.wk fun _ _ _ _ z => oRd_ln (oEn_rd z)).w _ (by unfold oLn; omega)).tr (o4.wk fun _ _ _ _ z => oRd_ln (oAd_rd z))
      have wa : (nxS (full ρ (ln = 40) ((tkW tp n ρ.2.1 : Nat) : Int))).1 = false := by
        show (full ρ (ln = 40) ((tkW tp n ρ.2.1 : Nat) : Int)).1 = false
        rw [full_k.1]
        exact hw
      generalize nxS (full ρ (ln = 40) ((tkW tp n ρ.2.1 : Nat) : Int)) = ρa at *
      -- the end of the line
      have endl : ∀ (M5 : zM) (b : RP × SB), bodS tp n (tkK tp n ρ.2.1) ρa R ((tkW tp n ρ.2.1 : Nat) : Int) = b → Off oLn M M5 → M5.1 10 0 0 9 = iz ((ln + 1 : Nat) : Int) → rSt M5 tp n b.1 → rRd M5 b.2 → zGo Γ 174 Q 422 [some (zo 10 0 0), none, none, none, none, none] [] M5 := by
        intro M5 b hb o5 l5 R5 d5
        rw [hb] at h
        have ends : (b.1.1 = true ∨ tkK tp n b.1.2.1 ≠ 2) → zGo Γ 174 Q 444 [some (zo 10 0 0), none, none, none, none, none] [] M5 := fun z => by
          refine bk_174_444 (r_ends R5 (fun M6 o6 R6 => ⟨rfl, h M6 (o5.tr (o6.wk fun _ _ _ _ z => oRd_ln (oEn_rd z))) ?_ (d5.en o6) ?_⟩))
          · unfold finS
            rw [if_pos z]
            exact R6
          · intro y
            unfold finS at y
            rw [if_pos z, edS_t] at y
            cases y
        refine bk_174_422 ?_
        rw [R5.2.1]
        cases hw5 : b.1.1 with
        | true => exact ⟨fun _ => ends (Or.inl hw5), fun z => absurd z (by decide)⟩
        | false =>
          have tw5 := tk_w R5 hw5
          refine ⟨fun z => absurd rfl z, fun _ => ⟨fun z => ends (Or.inr (fun y => z (tw5.2.1.mpr y))), fun z => ?_⟩⟩
          have k2 := tw5.2.1.mp z
          refine r_adv1 R5 hw5 (fun M6 o6 R6 => ⟨rfl, h M6 (o5.tr (o6.wk fun _ _ _ _ z => oRd_ln (oAd_rd z))) ?_ (d5.rd (o6.wk fun _ _ _ _ => oAd_rd)) (fun _ => (o6.1 _ _ _ _ (by unfold oAd; omega)).trans l5)⟩)
          unfold finS
          rw [if_neg (by rintro (y | y); rw [hw5] at y; cases y; exact y k2)]
          exact R6
      have hone := one_b (tp := tp) (n := n) (ρ := ρa) hB
      have htw := tw_b (tp := tp) (n := n) (ρ := ρa) hB
      have li : (iz (rwk (tkK tp n ρ.2.1))).toInt = (tkK tp n ρ.2.1 : Int) - 10 := by rw [iz_toInt (by omega) (by omega), ew]
      rw [li]
      have oo : ∀ {M5 : zM}, Off oRd M4 M5 → Off oLn M M5 := fun o => o4'.tr (o.wk fun _ _ _ _ => oRd_ln)
      have ol : ∀ {M5 : zM}, Off oRd M4 M5 → M5.1 10 0 0 9 = iz ((ln + 1 : Nat) : Int) := fun o => (o.1 _ _ _ _ (by unfold oRd; omega)).trans l4
      have eb : bodS tp n (tkK tp n ρ.2.1) ρa R ((tkW tp n ρ.2.1 : Nat) : Int) = if tkK tp n ρ.2.1 = 11 then boS tp n ρa R ((tkW tp n ρ.2.1 : Nat) : Int) else if tkK tp n ρ.2.1 = 12 then biS tp n ρa R ((tkW tp n ρ.2.1 : Nat) : Int) else if tkK tp n ρ.2.1 = 13 then ofS tp n ρa R 24 1 9 else if tkK tp n ρ.2.1 = 14 then ofS tp n ρa R 31 0 9999 else if tkK tp n ρ.2.1 = 15 then exB tp n ρa R else if tkK tp n ρ.2.1 = 16 then soS tp n ρa R ((tkW tp n ρ.2.1 : Nat) : Int) else if tkK tp n ρ.2.1 = 17 then frB tp n ρa R else if tkK tp n ρ.2.1 = 18 then foB tp n ρa R else if tkK tp n ρ.2.1 = 19 then wyB tp n ρa R else brB tp n ρa R := rfl
      have lw : ∀ {M5 : zM} {k : Nat} {v : Int32}, M5.1 10 0 0 9 = iz ((ln + 1 : Nat) : Int) → (zw M5 10 0 11 k v).1 10 0 0 9 = iz ((ln + 1 : Nat) : Int) := fun q => (zw_ne (by omega)).trans q
      have ow : ∀ {M5 : zM} {k : Nat} {v : Int32}, Off oLn M M5 → Off oLn M (zw M5 10 0 11 k v) := fun o => o.w _ (by unfold oLn; omega)
      have hone' : ∃ a : Nat, (oneS tp n ρa R).2.2 = (a : Int) ∧ a ≤ 6 := ⟨(oneS tp n ρa R).2.2.toNat, by omega, by omega⟩
      have mp : ∀ (lo hi : Int) (base : Nat), (0 ≤ lo ∧ lo ≤ 10) → (-1 ≤ hi ∧ hi ≤ 9999) → base ≤ 31 → bodS tp n (tkK tp n ρ.2.1) ρa R ((tkW tp n ρ.2.1 : Nat) : Int) = ofS tp n ρa R base lo hi → zEv Γ 168 [zo 10 0 0] M4 (fun o M13 => ∃ r13, o = some (zi r13) ∧ zEv Γ 167 [zo 10 0 0, zi (iz lo), zi (iz hi)] M13 (fun o M14 => ∃ r14, o = some (zi r14) ∧ ((r13 < 0 → zGo Γ 174 Q 422 [some (zo 10 0 0), none, none, none, none, none] [] M14) ∧ (¬ r13 < 0 → (vp_in (iz (base : Int) + r13) 240 ∧ zGo Γ 174 Q 422 [some (zo 10 0 0), none, none, none, none, none] [] (zw M14 10 0 11 (iz (base : Int) + r13).toNatClampNeg r14)))))) := by
        intro lo hi base hlo hhi hbase hb
        refine r_oneBidder R4 d4 hB (fun M5 o5 R5 g5 => ⟨_, rfl, r_numbered R5 hlo hhi (fun M6 o6 R6 g6 => ⟨_, rfl, ?_⟩)⟩)
        obtain ⟨a, ha, ha6⟩ := hone'
        unfold ofS at hb
        rw [ha, Int.toNat_natCast] at hb
        rw [ha, iz_add, show ((base : Int) + (a : Int)) = ((base + a : Nat) : Int) by omega, iz_clN (by omega)]
        refine ⟨fun z => absurd z (by rw [iz0, iz_lt (by omega) (by omega) (by omega) (by omega)]; omega), fun _ => ⟨iz_inN (by omega) (by omega), ?_⟩⟩
        exact endl _ _ hb (ow (oo (o5.tr o6))) (lw (ol (o5.tr o6))) R6.w (((d4.rd o5).rd o6).w (by omega))
      have t2 : ∀ (M5 : zM) (ρ5 : RP) (base : Nat) (v : Int), base ≤ 178 → Off oRd M4 M5 → rSt M5 tp n ρ5 → bodS tp n (tkK tp n ρ.2.1) ρa R ((tkW tp n ρ.2.1 : Nat) : Int) = (ρ5, two2 R base (twS tp n ρa R).2 v) → (0 ≤ iz (twS tp n ρa R).2 → (vp_in (iz (base : Int) + iz (twS tp n ρa R).2) 240 ∧ (¬ (7 : Int32) = 0 ∧ (¬ (7 : Int32) = 0 ∧ (vp_in ((iz (base : Int) + (7 * (iz (twS tp n ρa R).2 - iz (twS tp n ρa R).2 / 7 * 7))) + (iz (twS tp n ρa R).2 / 7)) 240 ∧ zGo Γ 174 Q 422 [some (zo 10 0 0), none, none, none, none, none] [] (zw (zw M5 10 0 11 (iz (base : Int) + iz (twS tp n ρa R).2).toNatClampNeg (iz v)) 10 0 11 ((iz (base : Int) + (7 * (iz (twS tp n ρa R).2 - iz (twS tp n ρa R).2 / 7 * 7))) + (iz (twS tp n ρa R).2 / 7)).toNatClampNeg (iz v))))))) ∧ (¬ 0 ≤ iz (twS tp n ρa R).2 → zGo Γ 174 Q 422 [some (zo 10 0 0), none, none, none, none, none] [] M5) := by
        intro M5 ρ5 base v hbase o5 R5 hb
        have d5 := d4.rd o5
        unfold two2 at hb
        have le0 : (0 ≤ iz (twS tp n ρa R).2) = (0 ≤ (twS tp n ρa R).2) := by rw [iz0, iz_le (by omega) (by omega) (by omega) (by omega)]
        rw [le0]
        refine ⟨fun z => ?_, fun z => ?_⟩
        · rw [if_neg (by omega)] at hb
          obtain ⟨t, ht⟩ : ∃ t : Nat, (twS tp n ρa R).2 = (t : Int) := ⟨(twS tp n ρa R).2.toNat, by omega⟩
          rw [ht] at htw hb ⊢
          rw [Int.toNat_natCast] at hb
          have dm := iz_mod (a := t) (B := 7) (by omega) (by omega) (by omega)
          have e7 : (7 : Int32) = iz ((7 : Nat) : Int) := rfl
          rw [e7, dm.1, dm.2, iz_mul, iz_add, iz_add, iz_add, show ((base : Int) + (t : Int)) = ((base + t : Nat) : Int) by omega, show ((base : Int) + ((7 : Nat) : Int) * ((t % 7 : Nat) : Int) + ((t / 7 : Nat) : Int)) = ((base + 7 * (t % 7) + t / 7 : Nat) : Int) by omega, iz_clN (by omega), iz_clN (by omega)]
          refine ⟨iz_inN (by omega) (by omega), by decide, by decide, iz_inN (by omega) (by omega), ?_⟩
          exact endl _ _ hb (ow (ow (oo o5))) (lw (lw (ol o5))) R5.w.w ((d5.w (by omega)).w (by omega))
        · rw [if_pos (by omega)] at hb
          exact endl _ _ hb (oo o5) (ol o5) R5 d5
      have atb : -1 ≤ ((tkW tp n ρ.2.1 : Nat) : Int) ∧ ((tkW tp n ρ.2.1 : Nat) : Int) ≤ 500 := by omega
      refine ⟨fun z => ?_, fun z => ?_, fun z => ?_, fun z => ?_, fun z => ?_, fun z => ?_, fun z => ?_, fun z => ?_, fun z => ?_, fun z => ?_, trivial⟩
      · have hb : bodS tp n (tkK tp n ρ.2.1) ρa R ((tkW tp n ρ.2.1 : Nat) : Int) = brB tp n ρa R := by rw [eb, show tkK tp n ρ.2.1 = 20 by omega]; rfl
        exact r_numbered (lo := 0) (hi := 99) R4 (by omega) (by omega) (fun M5 o5 R5 g5 => ⟨_, rfl, by unfold vp_in; decide, endl _ _ hb (ow (oo o5)) (lw (ol o5)) R5.w ((d4.rd o5).w (k := 3) (by omega))⟩)
      · have hb : bodS tp n (tkK tp n ρ.2.1) ρa R ((tkW tp n ρ.2.1 : Nat) : Int) = boS tp n ρa R ((tkW tp n ρ.2.1 : Nat) : Int) := by rw [eb, if_pos (by omega)]
        refine r_aBoard R4 wa d4 hB atb (fun M5 o5 R5 d5 => ⟨rfl, endl _ _ hb (o4'.tr (o5.wk fun _ _ _ _ => oRl_ln)) ((o5.1 _ _ _ _ (by unfold oRl; omega)).trans l4) R5 d5⟩)
      · have hb : bodS tp n (tkK tp n ρ.2.1) ρa R ((tkW tp n ρ.2.1 : Nat) : Int) = biS tp n ρa R ((tkW tp n ρ.2.1 : Nat) : Int) := by rw [eb, if_neg (by omega), if_pos (by omega)]
        refine r_aBidder R4 d4 hB atb (fun M5 o5 R5 d5 => ⟨rfl, endl _ _ hb (o4'.tr (o5.wk fun _ _ _ _ => oRl_ln)) ((o5.1 _ _ _ _ (by unfold oRl; omega)).trans l4) R5 d5⟩)
      · exact mp 1 9 24 (by omega) (by omega) (by omega) (by rw [eb, show tkK tp n ρ.2.1 = 13 by omega]; rfl)
      · exact mp 0 9999 31 (by omega) (by omega) (by omega) (by rw [eb, show tkK tp n ρ.2.1 = 14 by omega]; rfl)
      · have hb : bodS tp n (tkK tp n ρ.2.1) ρa R ((tkW tp n ρ.2.1 : Nat) : Int) = exB tp n ρa R := by rw [eb, show tkK tp n ρ.2.1 = 15 by omega]; rfl
        refine r_oneBidder R4 d4 hB (fun M5 o5 R5 g5 => ⟨_, rfl, by unfold vp_in; decide, ?_⟩)
        have d5 := d4.rd o5
        have e0 : M5.1 10 0 11 (0 : Int32).toNatClampNeg = iz (R 0) := d5 0 (by omega)
        rw [e0, iz1, iz_sub]
        refine r_numbered (lo := 0) (hi := R 0 - 1) R5 (by omega) (by omega) (fun M6 o6 R6 g6 => ⟨_, rfl, r_moreOrLess R6 (fun M7 o7 R7 => ⟨_, rfl, ?_⟩)⟩)
        have v1 := nuS_one (tp := tp) (n := n) (ρ := (oneS tp n ρa R).1) (hi := R 0 - 1) (by omega)
        obtain ⟨a, ha, ha6⟩ := hone'
        obtain ⟨b, hb6⟩ : ∃ b : Nat, (nuS tp n (oneS tp n ρa R).1 0 (R 0 - 1)).2.2 = (b : Int) := ⟨(nuS tp n (oneS tp n ρa R).1 0 (R 0 - 1)).2.2.toNat, by omega⟩
        unfold exB at hb
        rw [ha, hb6, Int.toNat_natCast, Int.toNat_natCast] at hb
        rw [hb6] at v1
        rw [ha, hb6, show (38 : Int32) = iz 38 from rfl, show (6 : Int32) = iz 6 from rfl, iz_mul, iz_add, iz_add, show ((38 : Int) + 6 * (a : Int) + (b : Int)) = ((38 + 6 * a + b : Nat) : Int) by omega, iz_clN (by omega)]
        exact ⟨iz_inN (by omega) (by omega), endl _ _ hb (ow (oo ((o5.tr o6).tr o7))) (lw (ol ((o5.tr o6).tr o7))) R7.w (((d5.rd o6).rd o7).w (by omega))⟩
      · have hb : bodS tp n (tkK tp n ρ.2.1) ρa R ((tkW tp n ρ.2.1 : Nat) : Int) = soS tp n ρa R ((tkW tp n ρ.2.1 : Nat) : Int) := by rw [eb, if_neg (by omega), if_neg (by omega), if_neg (by omega), if_neg (by omega), if_neg (by omega), if_pos (by omega)]
        refine r_aSort R4 d4 hB atb (fun M5 o5 R5 d5 => ⟨rfl, endl _ _ hb (o4'.tr (o5.wk fun _ _ _ _ => oRl_ln)) ((o5.1 _ _ _ _ (by unfold oRl; omega)).trans l4) R5 d5⟩)
      · refine r_twoBidders R4 d4 hB (fun M5 o5 R5 => ⟨_, rfl, r_moreOrLess R5 (fun M6 o6 R6 => ⟨_, rfl, ?_⟩)⟩)
        exact t2 M6 _ 129 _ (by omega) (o5.tr o6) R6 (by rw [eb, show tkK tp n ρ.2.1 = 17 by omega]; rfl)
      · refine r_twoBidders R4 d4 hB (fun M5 o5 R5 => ⟨_, rfl, ?_⟩)
        exact t2 M5 _ 178 1 (by omega) o5 R5 (by rw [eb, show tkK tp n ρ.2.1 = 18 by omega]; rfl)
      · have hb : bodS tp n (tkK tp n ρ.2.1) ρa R ((tkW tp n ρ.2.1 : Nat) : Int) = wyB tp n ρa R := by rw [eb, show tkK tp n ρ.2.1 = 19 by omega]; rfl
        have tw4 := tk_w R4 wa
        have kb4 := tkK_b (tp := tp) (n := n) (k := ρa.2.1)
        unfold wyB at hb
        have bad2 : ¬ (21 ≤ tkK tp n ρa.2.1 ∧ tkK tp n ρa.2.1 ≤ 23) → zGo Γ 174 Q 384 [some (zo 10 0 0), none, none, none, none, none] [] M4 := fun y => by
          rw [if_pos (Or.inr y)] at hb
          rw [hb] at h
          have ef : finS tp n (edS tp n ρa) = edS tp n ρa := by
            unfold finS
            rw [if_pos (Or.inl edS_t), edS_w edS_t]
          rw [ef] at h
          exact bk_174_384 (r_ends R4 (fun M6 o6 R6 => ⟨rfl, h M6 (o4'.tr (o6.wk fun _ _ _ _ z => oRd_ln (oEn_rd z))) R6 (d4.en o6) (fun x => by rw [edS_t] at x; cases x)⟩))
        rw [R4.2.1, wa]
        refine ⟨fun y => absurd rfl y, fun _ => ⟨fun y => bad2 (fun x => y (tw4.1.mpr (by omega))), fun y => ?_⟩⟩
        have k11' := tw4.1.mp y
        have rwb : (rwk (tkK tp n ρa.2.1) = (tkK tp n ρa.2.1 : Int) - 1 ∧ 21 ≤ tkK tp n ρa.2.1 ∧ tkK tp n ρa.2.1 ≤ 23) ∨ (¬ (20 ≤ rwk (tkK tp n ρa.2.1) ∧ rwk (tkK tp n ρa.2.1) ≤ 22) ∧ ¬ (21 ≤ tkK tp n ρa.2.1 ∧ tkK tp n ρa.2.1 ≤ 23)) := by
          unfold rwk
          split
          · omega
          · split <;> omega
        have rwc : 1 ≤ rwk (tkK tp n ρa.2.1) ∧ rwk (tkK tp n ρa.2.1) ≤ 31 := by
          unfold rwk
          split
          · omega
          · split <;> omega
        rw [tw4.2.2.1 k11']
        refine r_isIn (lo := 20) (hi := 22) (by omega) (by omega) (by omega) (fun q1 q2 => ⟨_, rfl, fun _ => ⟨by unfold vp_in; decide, ?_⟩, fun x => absurd x (by decide)⟩) (fun q1 => ⟨_, rfl, fun x => absurd rfl x, fun _ => bad2 (by omega)⟩)
        have kk : 21 ≤ tkK tp n ρa.2.1 ∧ tkK tp n ρa.2.1 ≤ 23 := by omega
        rw [if_neg (by rintro (x | x); rw [wa] at x; cases x; exact x kk)] at hb
        rw [tw4.2.2.1 k11', show (20 : Int32) = iz 20 from rfl, iz_sub, show rwk (tkK tp n ρa.2.1) - 20 = (tkK tp n ρa.2.1 : Int) - 21 by omega]
        refine r_adv1 (R4.w (k := 2)) wa (fun M5 o5 R5 => ⟨rfl, endl _ _ hb ((ow o4').tr (o5.wk fun _ _ _ _ x => oRd_ln (oAd_rd x))) ((o5.1 _ _ _ _ (by unfold oAd; omega)).trans (lw l4)) R5 ((d4.w (k := 2) (by omega)).rd (o5.wk fun _ _ _ _ => oAd_rd))⟩)
    refine ⟨fun q40 => rest M (Off.rf M) ?_, fun q40 => r_also (kd := 3) hR (by omega) (by omega) (fun M3 o3 R3 => ⟨rfl, rest M3 o3 ?_⟩)⟩
    · unfold full
      rw [if_neg q40]
      exact hR
    · unfold full
      rw [if_pos q40]
      exact R3
end Z90
