/-! the reference's best rows -/
def rT (M : zM) (tl tg : Int) : Prop := M.1 10 0 0 21 = iz tl ∧ (-1 ≤ tl ∧ tl < 100) ∧ (M.1 10 0 0 22 = iz tg ∧ 0 ≤ tg ∧ tg ≤ 99 ∨ tl = -1)
def oBs (c t f i : Nat) : Prop := c = 10 ∧ t = 0 ∧ (f = 0 ∧ (i = 28 ∨ i = 32) ∨ f = 30 ∨ f = 31 ∨ f = 32)
def oMs (c t f _i : Nat) : Prop := c = 10 ∧ t = 0 ∧ f = 31
def rRow (M : zM) (S : SB) (R : Nat) (rw : Nat → Nat) : Prop := M.1 10 0 0 28 = iz (R : Int) ∧ R ≤ 7 ∧ ∀ j, j < R → M.1 10 0 30 j = iz ((rw j : Nat) : Int) ∧ rw j < (S 0).toNat
def rCl (M : zM) (S : SB) (R : Nat) (w : Nat → Nat → Int) (k : Nat) : Prop := ∀ j s, j ≤ R → s < 2 ^ (S 1).toNat → M.1 10 0 31 (128 * j + s) = iz (mv S false R w (R - j) (s ||| gn k) 7)
theorem rT.off {P : Nat → Nat → Nat → Nat → Prop} {M M' : zM} {tl tg : Int} (h : rT M tl tg) (ho : Off P M M') (h1 : ¬ P 10 0 0 21) (h2 : ¬ P 10 0 0 22) : rT M' tl tg := ⟨(ho.1 _ _ _ _ h1).trans h.1, h.2.1, h.2.2.imp (fun z => ⟨(ho.1 _ _ _ _ h2).trans z.1, z.2⟩) id⟩
theorem rRow.off {P : Nat → Nat → Nat → Nat → Prop} {M M' : zM} {S : SB} {R : Nat} {rw : Nat → Nat} (h : rRow M S R rw) (ho : Off P M M') (h1 : ¬ P 10 0 0 28) (h2 : ∀ i, ¬ P 10 0 30 i) : rRow M' S R rw := ⟨(ho.1 _ _ _ _ h1).trans h.1, h.2.1, fun j hj => ⟨(ho.1 _ _ _ _ (h2 j)).trans (h.2.2 j hj).1, (h.2.2 j hj).2⟩⟩
theorem exR_m (k : Nat) : exR (-1) k = k := by unfold exR; rw [if_neg (by omega)]
theorem may7 {S : SB} {s i : Nat} : may S s 7 i = !s.testBit i := by unfold may; simp
theorem cnd7 {S : SB} {R : Nat} {w : Nat → Nat → Int} {j s i : Nat} : cnd S false R w j s 7 i = w i j + mv S false R w (R - (j + 1)) (s ||| 2 ^ i) 7 := by
  unfold cnd frS lbB
  simp
theorem stt7 {S : SB} {R : Nat} {w : Nat → Nat → Int} : ∀ j, (stt S false R w j).2 = 7
  | 0 => rfl
  | j + 1 => by
    rw [stt]
    cases ch S false R w j (stt S false R w j).1 (stt S false R w j).2 <;> rfl
theorem oBs_sc {c t f i : Nat} (h : oBs c t f i) : rSc c t f i := by
  unfold oBs at h
  unfold rSc
  omega
section Z61
variable {Γ : zC} {Q : zQ} {M : zM} {b R : Nat} {S : SB} {rw : Nat → Nat} {tl tg : Int}
theorem rB.bs {P : Nat → Nat → Nat → Nat → Prop} {M M' : zM} (h : rB M b S) (ho : Off P M M') (hP : ∀ c t f i, P c t f i → oBs c t f i) : rB M' b S := h.off (ho.wk hP) (by unfold oBs; intro i; omega) (by unfold oBs; omega) (by unfold oBs; omega) (by unfold oBs; omega)
theorem rT.bs {P : Nat → Nat → Nat → Nat → Prop} {M M' : zM} (h : rT M tl tg) (ho : Off P M M') (hP : ∀ c t f i, P c t f i → oBs c t f i) : rT M' tl tg := h.off (ho.wk hP) (by unfold oBs; omega) (by unfold oBs; omega)
theorem r_worT {i j : Nat} (hS : SOK S) (hB : rB M b S) (hT : rT M tl tg) (hi : i < 7) (hj : j < 6) (h : Q (some (zi (iz (wT S tl tg i j)))) M) : zEv Γ 191 [zo 10 0 0, zi (iz (i : Int)), zi (iz (j : Int))] M Q := r_worthOf hS hB hT.1 hT.2.1 hT.2.2 hi hj h
theorem r_allRows (hS : SOK S) (hB : rB M b S) (h : ∀ M', Off oBs M M' → rRow M' S (S 0).toNat (exR (-1)) → Q none M') : zEv Γ 214 [zo 10 0 0] M Q := by
  have h6 := hS.1
  refine en_214 (bk_214_0 ?_)
  have e13 : M.1 10 0 0 13 = iz ((S 0).toNat : Int) := by rw [hB.2.1]; exact congrArg iz (by omega)
  rw [e13]
  refine zloop (P := fun j M2 => Off oBs M M2 ∧ M2.1 10 0 0 28 = iz ((S 0).toNat : Int) ∧ ∀ k, k < j → M2.1 10 0 30 k = iz ((k : Nat) : Int)) (G := fun j M2 => zGo Γ 214 Q 10 [some (zo 10 0 0), some (zi (iz (j : Int)))] [] M2) (n := (S 0).toNat) ?_ ?_ (S 0).toNat 0 _ (by omega) ⟨(Off.rf M).w _ (by unfold oBs; omega), zw_eq, fun k hk => by omega⟩
  · rintro M2 ⟨o2, l2, k2⟩
    have B2 := hB.bs o2 (fun _ _ _ _ z => z)
    refine bk_214_10 ⟨fun _ => h M2 o2 ⟨l2, by omega, fun j hj => by rw [exR_m]; exact ⟨k2 j hj, by omega⟩⟩, fun q => ?_⟩
    rw [B2.2.1, iz_le (by omega) (by omega) (by omega) (by omega)] at q
    omega
  · rintro j M2 hj ⟨o2, l2, k2⟩ ih
    have B2 := hB.bs o2 (fun _ _ _ _ z => z)
    refine bk_214_10 ⟨fun q => ?_, fun _ => ⟨iz_inN (by omega) (by omega), ?_⟩⟩
    · rw [B2.2.1, iz_le (by omega) (by omega) (by omega) (by omega)] at q
      omega
    · rw [iz_clN (by omega), iz_s]
      refine ih _ ⟨o2.w _ (by unfold oBs; omega), (zw_ne (by omega)).trans l2, fun k hk => ?_⟩
      by_cases e : k = j
      · rw [e, zw_eq]
      · rw [zw_ne (by omega)]
        exact k2 k (by omega)
theorem r_mostOf {k : Nat} {x : Int32} (hS : SOK S) (hB : rB M b S) (hT : rT M tl tg) (hR : rRow M S R rw) (hx : x = iz (-1) ∧ k = 7 ∨ x = iz (k : Int) ∧ k < (S 1).toNat)
    (h : ∀ M', Off oMs M M' → rCl M' S R (wR (wT S tl tg) rw (S 1).toNat) k → Q (some (zi (iz (mv S false R (wR (wT S tl tg) rw (S 1).toNat) R (gn k) 7)))) M') : zEv Γ 215 [zo 10 0 0, zi x] M Q := by
  have h6 := hS.1
  have h7 := hS.2.1
  have hR7 := hR.2.1
  have hp := bit_p (S 1).toNat (by omega)
  have hp1 : 0 < 2 ^ (S 1).toNat := Nat.two_pow_pos _
  have hk8 : k < 8 := by omega
  have hg : gn k < 2 ^ (S 1).toNat := by
    unfold gn
    split
    · exact hp1
    · exact Nat.pow_lt_pow_right (by omega) (by omega)
  have hw : ∀ i j, i < 7 → j < R → 0 ≤ wR (wT S tl tg) rw (S 1).toNat i j ∧ wR (wT S tl tg) rw (S 1).toNat i j ≤ 10800 := fun i j _ hj => by
    unfold wR
    split
    · exact wT_W hS (hT.2.2.imp (fun z => z.2) id) i (rw j) (by omega) (hR.2.2 j hj).2
    · omega
  have main : zGo Γ 215 Q 17 [some (zo 10 0 0), none, some (zi (iz ((gn k : Nat) : Int))), some (zi (iz (R : Int))), none, none, none] [] M := by
    have lp : ∀ (d D : Nat) (M2 : zM), D + d = R + 1 → (Off oMs M M2 ∧ ∀ j s, R < j + D → j ≤ R → s < 2 ^ (S 1).toNat → M2.1 10 0 31 (128 * j + s) = iz (mv S false R (wR (wT S tl tg) rw (S 1).toNat) (R - j) (s ||| gn k) 7)) → zGo Γ 215 Q 17 [some (zo 10 0 0), none, some (zi (iz ((gn k : Nat) : Int))), some (zi (iz ((R : Int) - (D : Int)))), none, none, none] [] M2 := by
      refine zloop (P := fun D M2 => Off oMs M M2 ∧ ∀ j s, R < j + D → j ≤ R → s < 2 ^ (S 1).toNat → M2.1 10 0 31 (128 * j + s) = iz (mv S false R (wR (wT S tl tg) rw (S 1).toNat) (R - j) (s ||| gn k) 7)) (G := fun D M2 => zGo Γ 215 Q 17 [some (zo 10 0 0), none, some (zi (iz ((gn k : Nat) : Int))), some (zi (iz ((R : Int) - (D : Int)))), none, none, none] [] M2) (n := R + 1) ?_ ?_
      · rintro M2 ⟨o2, c2⟩
        refine bk_215_17 ⟨fun _ => ⟨by unfold vp_in; decide, ?_⟩, fun q => ?_⟩
        · have e0 := c2 0 0 (by omega) (by omega) hp1
          rw [Nat.zero_or, Nat.sub_zero] at e0
          have := h M2 o2 (fun j s h1 h2 => c2 j s (by omega) h1 h2)
          rw [← e0] at this
          exact this
        · rw [iz0, iz_lt (by omega) (by omega) (by omega) (by omega)] at q
          omega
      · rintro D M2 hD ⟨o2, c2⟩ ih
        have ej : (R : Int) - (D : Int) = ((R - D : Nat) : Int) := by omega
        rw [ej]
        refine bk_215_17 ⟨fun q => ?_, fun _ => ?_⟩
        · rw [iz0, iz_lt (by omega) (by omega) (by omega) (by omega)] at q
          omega
        have hjR : R - D ≤ R := by omega
        have hjD : R - D + D = R := by omega
        generalize R - D = j at *
        refine zloop (P := fun s M3 => Off oMs M M3 ∧ (∀ j' s', R < j' + D → j' ≤ R → s' < 2 ^ (S 1).toNat → M3.1 10 0 31 (128 * j' + s') = iz (mv S false R (wR (wT S tl tg) rw (S 1).toNat) (R - j') (s' ||| gn k) 7)) ∧ ∀ s', s' < s → M3.1 10 0 31 (128 * j + s') = iz (mv S false R (wR (wT S tl tg) rw (S 1).toNat) (R - j) (s' ||| gn k) 7)) (G := fun s M3 => zGo Γ 215 Q 24 [some (zo 10 0 0), none, some (zi (iz ((gn k : Nat) : Int))), some (zi (iz (j : Int))), some (zi (iz (s : Int))), none, none] [] M3) (n := 2 ^ (S 1).toNat) ?_ ?_ (2 ^ (S 1).toNat) 0 M2 (by omega) ⟨o2, c2, fun s' h1 => by omega⟩
        · rintro M3 ⟨o3, c3, d3⟩
          have B3 := hB.bs o3 (by unfold oMs oBs; intro c t f i; omega)
          have e14 : M3.1 10 0 0 14 = iz ((S 1).toNat : Int) := by rw [B3.2.2.1]; exact congrArg iz (by omega)
          refine bk_215_24 ⟨fun _ => ?_, fun q => ?_⟩
          · rw [show iz (j : Int) + (-1) = iz ((R : Int) - ((D + 1 : Nat) : Int)) by rw [iz_m1, iz_add]; exact congrArg iz (by omega)]
            refine ih M3 ⟨o3, fun j' s' h1 h2 h3 => ?_⟩
            by_cases e : j' = j
            · subst e
              exact d3 s' h3
            · exact c3 j' s' (by omega) h2 h3
          · rw [e14, bit_sh _ (by omega), iz_le (by omega) (by omega) (by omega) (by omega)] at q
            omega
        · rintro s M3 hs ⟨o3, c3, d3⟩ ih3
          have B3 := hB.bs o3 (by unfold oMs oBs; intro c t f i; omega)
          have T3 := hT.bs o3 (by unfold oMs oBs; intro c t f i; omega)
          have R3 := hR.off o3 (by unfold oMs; omega) (by unfold oMs; omega)
          have e14 : M3.1 10 0 0 14 = iz ((S 1).toNat : Int) := by rw [B3.2.2.1]; exact congrArg iz (by omega)
          have nx : zGo Γ 215 Q 24 [some (zo 10 0 0), none, some (zi (iz ((gn k : Nat) : Int))), some (zi (iz (j : Int))), some (zi (iz ((s + 1 : Nat) : Int))), none, none] [] (zw M3 10 0 31 (128 * j + s) (iz (mv S false R (wR (wT S tl tg) rw (S 1).toNat) (R - j) (s ||| gn k) 7))) := by
            refine ih3 _ ⟨o3.w _ ⟨rfl, rfl, rfl⟩, fun j' s' h1 h2 h3 => ?_, fun s' h1 => ?_⟩
            · rw [zw_ne (by omega)]
              exact c3 j' s' h1 h2 h3
            · by_cases e : s' = s
              · rw [e, zw_eq]
              · rw [zw_ne (by omega)]
                exact d3 s' (by omega)
          have ei : (128 : Int32) * iz (j : Int) + iz (s : Int) = iz ((128 * j + s : Nat) : Int) := by
            rw [show (128 : Int32) = iz 128 from rfl, iz_mul, iz_add]
            exact congrArg iz (by omega)
          have ei1 : ∀ y : Nat, (128 : Int32) * (iz (j : Int) + 1) + iz (y : Int) = iz ((128 * (j + 1) + y : Nat) : Int) := fun y => by
            rw [iz_s, show (128 : Int32) = iz 128 from rfl, iz_mul, iz_add]
            exact congrArg iz (by omega)
          refine bk_215_24 ⟨fun q => ?_, fun _ => ?_⟩
          · rw [e14, bit_sh _ (by omega), iz_le (by omega) (by omega) (by omega) (by omega)] at q
            omega
          rw [R3.1, iz_le (by omega) (by omega) (by omega) (by omega), ei, iz_s, iz_clN (by omega)]
          refine ⟨fun q => ⟨iz_inN (by omega) (by omega), ?_⟩, fun q => ?_⟩
          · have e : R - j = 0 := by omega
            rw [e] at nx
            exact nx
          · rw [ei1 s, iz_clN (by omega), c3 (j + 1) s (by omega) (by omega) hs]
            refine ⟨iz_inN (by omega) (by omega), ?_⟩
            have hbg := bit_gn s (by omega) k hk8
            have hz := mv_b hS hw (B := false) (R - (j + 1)) (by omega) (s ||| gn k) 7 (by omega)
            refine nloop (G := fun i => zGo Γ 215 Q 66 [some (zo 10 0 0), none, some (zi (iz ((gn k : Nat) : Int))), some (zi (iz (j : Int))), some (zi (iz (s : Int))), some (zi (iz (mxI (cnd S false R (wR (wT S tl tg) rw (S 1).toNat) j (s ||| gn k) 7) (may S (s ||| gn k) 7) (mv S false R (wR (wT S tl tg) rw (S 1).toNat) (R - (j + 1)) (s ||| gn k) 7) i))), some (zi (iz (i : Int)))] [] M3) (n := (S 1).toNat) ?_ (fun i hi ihi => ?_) (S 1).toNat 0 (by omega)
            · refine bk_215_66 ⟨fun _ => ?_, fun q2 => ?_⟩
              · rw [ei, iz_s, iz_clN (by omega), ← mv_s (by omega)]
                exact ⟨iz_inN (by omega) (by omega), nx⟩
              · rw [e14, iz_le (by omega) (by omega) (by omega) (by omega)] at q2
                omega
            · have hcb : ∀ i, i < (S 1).toNat → cnd S false R (wR (wT S tl tg) rw (S 1).toNat) j (s ||| gn k) 7 i ≤ 100000 := fun i hi => (cnd_b hS hw hR7 (by omega) (by omega) (by omega)).2
              have hmb := mxI_b (ok := may S (s ||| gn k) 7) (f := cnd S false R (wR (wT S tl tg) rw (S 1).toNat) j (s ||| gn k) 7) (K := 100000) hz.1 (by omega) i (fun k hk => hcb k (by omega))
              have hcb1 := cnd_b (s := s ||| gn k) (B := false) hS hw hR7 (show j < R by omega) (show 7 ≤ 7 by omega) (show i < 7 by omega)
              have hb := bit_or s (by omega) i (by omega)
              rw [mxI, may7] at ihi
              refine bk_215_66 ⟨fun q2 => ?_, fun _ => ?_⟩
              · rw [e14, iz_le (by omega) (by omega) (by omega) (by omega)] at q2
                omega
              rw [hbg.1, bit_get _ hbg.2.2.1 i (by omega), hb.1, ei1, iz_s]
              cases ht : (s ||| gn k).testBit i with
              | true =>
                rw [ht] at ihi
                exact ⟨fun _ => ihi, fun q2 => absurd q2 (by decide)⟩
              | false =>
                rw [ht] at ihi
                refine ⟨fun q2 => absurd rfl q2, fun _ => ⟨iz_inN (by omega) (by omega), ?_⟩⟩
                rw [iz_clN (show j < 2147483648 by omega), (R3.2.2 j (by omega)).1]
                have hrj := (R3.2.2 j (by omega)).2
                refine r_worT hS B3 T3 (by omega) (by omega) ⟨_, rfl, iz_inN (by omega) (by omega), ?_⟩
                have hor : s ||| 2 ^ i ||| gn k = s ||| gn k ||| 2 ^ i := by
                  rw [Nat.or_assoc, Nat.or_assoc, Nat.or_comm (2 ^ i)]
                rw [iz_clN (by omega), c3 (j + 1) (s ||| 2 ^ i) (by omega) (by omega) (bit_lt _ (by omega) s hs i hi), hor, iz_add]
                have ec : wT S tl tg i (rw j) + mv S false R (wR (wT S tl tg) rw (S 1).toNat) (R - (j + 1)) (s ||| gn k ||| 2 ^ i) 7 = cnd S false R (wR (wT S tl tg) rw (S 1).toNat) j (s ||| gn k) 7 i := by
                  rw [cnd7]
                  unfold wR
                  rw [if_pos hi]
                rw [ec]
                refine r_greater (by omega) (by omega) ⟨_, rfl, ?_⟩
                exact ihi
    have := lp (R + 1) 0 M (by omega) ⟨Off.rf M, fun j s h1 h2 => by omega⟩
    rw [show (R : Int) - ((0 : Nat) : Int) = (R : Int) by omega] at this
    exact this
  refine en_215 (bk_215_0 ?_)
  rw [hR.1]
  rcases hx with ⟨rfl, rfl⟩ | ⟨rfl, hkn⟩
  · exact ⟨fun q => absurd q (by decide), fun _ => main⟩
  · refine ⟨fun _ => ?_, fun q => ?_⟩
    · rw [bit_sh k (by omega)]
      have eg : gn k = 2 ^ k := by unfold gn; rw [if_neg (by omega)]
      rw [eg] at main
      exact main
    · rw [iz0, iz_le (by omega) (by omega) (by omega) (by omega)] at q
      omega
theorem r_bestNow (hS : SOK S) (hB : rB M b S) (hT : rT M tl tg) (h : ∀ M', Off oBs M M' → rRow M' S (S 0).toNat (exR (-1)) → M'.1 10 0 0 32 = iz (mvA S false (wT S tl tg)) → (∀ j, j < (S 0).toNat → M'.1 10 0 32 j = iz (opI (rwA S false (wT S tl tg) j))) → Q none M') : zEv Γ 216 [zo 10 0 0] M Q := by
  have h6 := hS.1
  have h7 := hS.2.1
  have hp := bit_p (S 1).toNat (by omega)
  have hw : ∀ i j, i < 7 → j < (S 0).toNat → 0 ≤ bW S (wT S tl tg) i j ∧ bW S (wT S tl tg) i j ≤ 10800 := fun i j _ hj => by
    unfold bW wR
    split
    · rw [exR_m]
      exact wT_W hS (hT.2.2.imp (fun z => z.2) id) i j (by omega) hj
    · omega
  refine en_216 (bk_216_0 (r_allRows hS hB (fun M1 o1 R1 => ⟨rfl, ?_⟩)))
  have B1 := hB.bs o1 (fun _ _ _ _ z => z)
  have T1 := hT.bs o1 (fun _ _ _ _ z => z)
  refine r_mostOf (k := 7) hS B1 T1 R1 (Or.inl ⟨rfl, rfl⟩) (fun M2 o2 c2 => ⟨_, rfl, ?_⟩)
  have o2' : Off oBs M M2 := o1.tr (o2.wk (by unfold oMs oBs; intro c t f i; omega))
  have R2 := R1.off o2 (by unfold oMs; omega) (by unfold oMs; omega)
  have key : ∀ (d j : Nat) (M3 : zM), j + d = (S 0).toNat → (Off (fun c t f i => c = 10 ∧ t = 0 ∧ (f = 32 ∨ f = 0 ∧ i = 32)) M2 M3 ∧ M3.1 10 0 0 32 = iz (mvA S false (wT S tl tg)) ∧ ∀ j', j' < j → M3.1 10 0 32 j' = iz (opI (rwA S false (wT S tl tg) j'))) → zGo Γ 216 Q 17 [some (zo 10 0 0), some (zi (iz (((stt S false (S 0).toNat (bW S (wT S tl tg)) j).1 : Nat) : Int))), some (zi (iz (j : Int))), none] [] M3 := by
    refine zloop (P := fun j M3 => Off (fun c t f i => c = 10 ∧ t = 0 ∧ (f = 32 ∨ f = 0 ∧ i = 32)) M2 M3 ∧ M3.1 10 0 0 32 = iz (mvA S false (wT S tl tg)) ∧ ∀ j', j' < j → M3.1 10 0 32 j' = iz (opI (rwA S false (wT S tl tg) j'))) (G := fun j M3 => zGo Γ 216 Q 17 [some (zo 10 0 0), some (zi (iz (((stt S false (S 0).toNat (bW S (wT S tl tg)) j).1 : Nat) : Int))), some (zi (iz (j : Int))), none] [] M3) (n := (S 0).toNat) ?_ ?_
    · rintro M3 ⟨o3, a3, r3⟩
      have o3' : Off oBs M M3 := o2'.tr (o3.wk (by unfold oBs; intro c t f i; omega))
      have B3 := hB.bs o3' (fun _ _ _ _ z => z)
      refine bk_216_17 ⟨fun _ => h M3 o3' (R2.off o3 (by omega) (by omega)) a3 r3, fun q => ?_⟩
      rw [B3.2.1, iz_le (by omega) (by omega) (by omega) (by omega)] at q
      omega
    · rintro j M3 hj ⟨o3, a3, r3⟩ ih
      have o3' : Off oBs M M3 := o2'.tr (o3.wk (by unfold oBs; intro c t f i; omega))
      have B3 := hB.bs o3' (fun _ _ _ _ z => z)
      have T3 := hT.bs o3' (fun _ _ _ _ z => z)
      have e14 : M3.1 10 0 0 14 = iz ((S 1).toNat : Int) := by rw [B3.2.2.1]; exact congrArg iz (by omega)
      obtain ⟨s1, s2, s3⟩ := stt_ok hS (B := false) (R := (S 0).toNat) (w := bW S (wT S tl tg)) j
      have s7 := stt7 (S := S) (R := (S 0).toNat) (w := bW S (wT S tl tg)) j
      have hrow : rwA S false (wT S tl tg) j = ch S false (S 0).toNat (bW S (wT S tl tg)) j (stt S false (S 0).toNat (bW S (wT S tl tg)) j).1 7 := by
        unfold rwA row
        rw [s7]
      have nx := ih (zw M3 10 0 32 j (iz (opI (rwA S false (wT S tl tg) j)))) ⟨o3.w _ (by omega), (zw_ne (by omega)).trans a3, fun j' h1 => by
        by_cases e : j' = j
        · rw [e, zw_eq]
        · rw [zw_ne (by omega)]
          exact r3 j' (by omega)⟩
      rw [stt, s7] at nx
      have cell : ∀ j' s', j' ≤ (S 0).toNat → s' < 2 ^ (S 1).toNat → M3.1 10 0 31 (128 * j' + s') = iz (mv S false (S 0).toNat (bW S (wT S tl tg)) ((S 0).toNat - j') s' 7) := fun j' s' h1 h2 => by
        rw [o3.1 _ _ _ _ (by omega), c2 j' s' h1 h2]
        show iz (mv S false (S 0).toNat _ ((S 0).toNat - j') (s' ||| 0) 7) = _
        rw [Nat.or_zero]
        rfl
      refine bk_216_17 ⟨fun q => ?_, fun _ => ?_⟩
      · rw [B3.2.1, iz_le (by omega) (by omega) (by omega) (by omega)] at q
        omega
      generalize hs : (stt S false (S 0).toNat (bW S (wT S tl tg)) j).1 = s at *
      have ei : (128 : Int32) * iz (j : Int) + iz (s : Int) = iz ((128 * j + s : Nat) : Int) := by
        rw [show (128 : Int32) = iz 128 from rfl, iz_mul, iz_add]
        exact congrArg iz (by omega)
      have ei1 : ∀ y : Nat, (128 : Int32) * (iz (j : Int) + 1) + iz (y : Int) = iz ((128 * (j + 1) + y : Nat) : Int) := fun y => by
        rw [iz_s, show (128 : Int32) = iz 128 from rfl, iz_mul, iz_add]
        exact congrArg iz (by omega)
      have f14 : ∀ v : Int32, (zw M3 10 0 32 j v).1 10 0 0 14 = iz ((S 1).toNat : Int) := fun v => (zw_ne (by omega)).trans e14
      refine nloop (G := fun i => fnd (fun i => may S s 7 i && decide (cnd S false (S 0).toNat (bW S (wT S tl tg)) j s 7 i = mv S false (S 0).toNat (bW S (wT S tl tg)) ((S 0).toNat - j) s 7)) i ((S 1).toNat - i) = rwA S false (wT S tl tg) j → zGo Γ 216 Q 27 [some (zo 10 0 0), some (zi (iz (s : Int))), some (zi (iz (j : Int))), some (zi (iz (i : Int)))] [] M3) (n := (S 1).toNat) (fun e => ?_) (fun i hi ihi e => ?_) (S 1).toNat 0 (by omega) hrow.symm
      · rw [Nat.sub_self] at e
        have e : none = rwA S false (wT S tl tg) j := e
        rw [← hrow, ← e] at nx
        refine bk_216_27 ⟨fun _ => ⟨fun q => absurd e14.symm q, fun _ => ⟨iz_inN (by omega) (by omega), ?_⟩⟩, fun q => ?_⟩
        · rw [iz_clN (by omega), f14, iz_s]
          refine ⟨fun _ => nx, fun q => ?_⟩
          rw [iz_le (by omega) (by omega) (by omega) (by omega)] at q
          omega
        · rw [e14, iz_le (by omega) (by omega) (by omega) (by omega)] at q
          omega
      · rw [show (S 1).toNat - i = ((S 1).toNat - (i + 1)) + 1 by omega, fnd_s i, may7] at e
        have hb := bit_or s (by omega) i (by omega)
        refine bk_216_27 ⟨fun q => ?_, fun _ => ?_⟩
        · rw [e14, iz_le (by omega) (by omega) (by omega) (by omega)] at q
          omega
        rw [bit_get s (by omega) i (by omega), hb.1, ei1, ei]
        cases ht : s.testBit i with
        | true =>
          rw [ht] at e
          rw [iz_s]
          exact ⟨fun _ => ihi e, fun q => absurd rfl q⟩
        | false =>
          rw [ht] at e
          refine ⟨fun q => absurd q (by decide), fun _ => r_worT hS B3 T3 (by omega) (by omega) ⟨_, rfl, iz_inN (by omega) (by omega), iz_inN (by omega) (by omega), ?_⟩⟩
          have hcb1 := cnd_b (s := s) (B := false) (w := bW S (wT S tl tg)) hS hw (show (S 0).toNat ≤ 7 by omega) hj (show 7 ≤ 7 by omega) (show i < 7 by omega)
          have hmb := mv_b hS hw (B := false) ((S 0).toNat - j) (by omega) s 7 (by omega)
          have ec : wT S tl tg i j + mv S false (S 0).toNat (bW S (wT S tl tg)) ((S 0).toNat - (j + 1)) (s ||| 2 ^ i) 7 = cnd S false (S 0).toNat (bW S (wT S tl tg)) j s 7 i := by
            rw [cnd7]
            unfold bW wR
            rw [if_pos hi, exR_m]
          rw [iz_clN (by omega), iz_clN (by omega), cell j s (by omega) s1, cell (j + 1) (s ||| 2 ^ i) (by omega) (bit_lt _ (by omega) s s1 i hi), iz_add, ec, iz_eq (by omega) (by omega) (by omega) (by omega)]
          refine ⟨fun q => ⟨fun _ => ⟨iz_inN (by omega) (by omega), ?_⟩, fun q2 => ?_⟩, fun q => ?_⟩
          · rw [if_pos (by simp [q])] at e
            rw [← hrow, ← e] at nx
            rw [iz_clN (by omega), f14, iz_s, iz_le (by omega) (by omega) (by omega) (by omega)]
            exact ⟨fun q2 => by omega, fun _ => nx⟩
          · rw [e14, iz_eq (by omega) (by omega) (by omega) (by omega)] at q2
            omega
          · rw [if_neg (by simp [q])] at e
            rw [iz_s]
            exact ihi e
  have ea : iz (mv S false (S 0).toNat (wR (wT S tl tg) (exR (-1)) (S 1).toNat) (S 0).toNat (gn 7) 7) = iz (mvA S false (wT S tl tg)) := rfl
  rw [ea]
  exact key (S 0).toNat 0 _ (by omega) ⟨(Off.rf M2).w _ (by omega), zw_eq, fun j' h1 => by omega⟩
theorem r_bestPlace {i : Nat} (hS : SOK S) (hB : rB M b S) {W : Nat → Nat → Int} (hr : ∀ j, j < (S 0).toNat → M.1 10 0 32 j = iz (opI (rwA S false W j))) (hi : i < 7) (h : Q (some (zi (iz (opI (plA S W i))))) M) : zEv Γ 217 [zo 10 0 0, zi (iz (i : Int))] M Q := by
  have h6 := hS.1
  refine en_217 (bk_217_0 ?_)
  refine nloop (G := fun j => fnd (fun j => decide (rwA S false W j = some i)) j ((S 0).toNat - j) = plA S W i → zGo Γ 217 Q 2 [some (zo 10 0 0), some (zi (iz (i : Int))), some (zi (iz (j : Int)))] [] M) (n := (S 0).toNat) (fun e => ?_) (fun j hj ih e => ?_) (S 0).toNat 0 (by omega) rfl
  · rw [Nat.sub_self] at e
    rw [← e] at h
    refine bk_217_2 ⟨fun _ => h, fun q => ?_⟩
    rw [hB.2.1, iz_le (by omega) (by omega) (by omega) (by omega)] at q
    omega
  · rw [show (S 0).toNat - j = ((S 0).toNat - (j + 1)) + 1 by omega, fnd_s j] at e
    refine bk_217_2 ⟨fun q => ?_, fun _ => ⟨iz_inN (by omega) (by omega), ?_⟩⟩
    · rw [hB.2.1, iz_le (by omega) (by omega) (by omega) (by omega)] at q
      omega
    · rw [iz_clN (by omega), hr j hj, row_is hS hi, iz_s]
      refine ⟨fun q => ih ?_, fun q => ?_⟩
      · rw [if_neg (by simpa using q)] at e
        exact e
      · rw [if_pos (by simpa using q)] at e
        rw [← e] at h
        exact h
end Z61
