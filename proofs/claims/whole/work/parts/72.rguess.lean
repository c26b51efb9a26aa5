/-! guess: the reference -/
def gnF (S : SB) (e : Nat) (x : Int) (m : Nat) : Int := sumTo (fun ρ => fGs S e x (dF (Bs S (e : Int)) (fun _ => 0) (S 1).toNat ρ)) m
theorem gnF_A {S : SB} {e : Nat} {x : Int} : gnF S e x (nB (Bs S (e : Int)) (S 1).toNat) = gnA S e x := (sum_rows Bs_pos (S 1).toNat (fGs S e x)).symm
section Z72
variable {Γ : zC} {Q : zQ} {M : zM} {b ts cnt : Nat} {S : SB} {SS : Nat → SB}
theorem r_gainBy {e : Nat} {x : Nat} (hS : SOK S) (hB : rB M b S) (ht : M.1 10 0 0 21 = iz (-1)) (hm : rMk M (S 1).toNat (mkS S)) (hz : rZ M S (e : Int)) (he : e < (S 1).toNat) (hx : x ≤ 99) (h : ∀ M', Off oTb M M' → rZ M' S (e : Int) → Q (some (zl (lz (gnA S e (x : Int))))) M') : zEv Γ 241 [zo 10 0 0, zi (iz (e : Int)), zi (iz (x : Int))] M Q := by
  have h7 := hS.2.1
  have h6 := hS.1
  have hN := nB_2187 hS (e := (e : Int))
  have nb3 : ∀ m, m ≤ (S 1).toNat → nB (Bs S (e : Int)) m ≤ 2187 := fun m hm => by
    have h1 := nB_le hS (e := (e : Int)) m (by omega)
    have h2 : 3 ^ m ≤ 3 ^ 7 := Nat.pow_le_pow_right (by omega) (by omega)
    have h3 : 3 ^ 7 = 2187 := by decide
    omega
  have e14 : ∀ {M2 : zM}, Off oTb M M2 → M2.1 10 0 0 14 = iz ((S 1).toNat : Int) := fun {M2} o2 => by
    rw [(hB.tb o2).2.2.1]
    exact congrArg iz (by omega)
  have e80 : ∀ i : Nat, (80 : Int32) + iz (i : Int) = iz ((80 + i : Nat) : Int) := fun i => by
    rw [show (80 : Int32) = iz 80 from rfl, iz_add]
    exact congrArg iz (by omega)
  have rows := zloop (P := fun ρ M2 => Off oTb M M2 ∧ rZ M2 S (e : Int)) (G := fun ρ M2 => zGo Γ 241 Q 54 [some (zo 10 0 0), some (zi (iz (e : Int))), some (zi (iz (x : Int))), some (zl (lz (gnF S e (x : Int) ρ))), none, some (zi (iz ((nB (Bs S (e : Int)) (S 1).toNat : Nat) : Int))), some (zi (iz (ρ : Int))), none, none, none, none, none, none] [] M2) (n := nB (Bs S (e : Int)) (S 1).toNat) ?_ ?_ (nB (Bs S (e : Int)) (S 1).toNat) 0 M (by omega) ⟨Off.rf M, hz⟩
  · refine en_241 (bk_241_0 ?_)
    refine nloop (G := fun i => zGo Γ 241 Q 8 [some (zo 10 0 0), some (zi (iz (e : Int))), some (zi (iz (x : Int))), some (zl (0 : Int64)), none, some (zi (iz ((nB (Bs S (e : Int)) i : Nat) : Int))), some (zi (iz (i : Int))), none, none, none, none, none, none] [] M) (n := (S 1).toNat) ?_ (fun i hi ih => ?_) (S 1).toNat 0 (by omega)
    · refine bk_241_8 ⟨fun _ => rows, fun q => ?_⟩
      rw [e14 (Off.rf M), iz_le (by omega) (by omega) (by omega) (by omega)] at q
      omega
    · have h11 := (hS.2.2.2.2.2.2.2.2.2.2.1 i (by omega)).1
      refine bk_241_8 ⟨fun q => ?_, fun _ => ?_⟩
      · rw [e14 (Off.rf M), iz_le (by omega) (by omega) (by omega) (by omega)] at q
        omega
      rw [iz_eq (by omega) (by omega) (by omega) (by omega), nB] at *
      refine ⟨fun q => r_of hB (80 + i) (by omega) (e80 i) ⟨_, rfl, r_greater (x := 1) (by omega) (by omega) ⟨_, rfl, ?_⟩⟩, fun q => ?_⟩
      · rw [BsN q] at ih
        rw [iz_mul, iz_s, show ((nB (Bs S (e : Int)) i : Nat) : Int) * max 1 (S (80 + i)) = ((nB (Bs S (e : Int)) i * max 1 (S (80 + i)).toNat : Nat) : Int) by
          rw [Int.natCast_mul]
          congr 1
          omega]
        exact ih
      · have eB : Bs S (e : Int) i = 1 := by unfold Bs; rw [if_pos q]
        rw [eB, Nat.mul_one] at ih
        rw [iz_s, iz1, iz_mul, Int.mul_one]
        exact ih
  · rintro M2 ⟨o2, z2⟩
    refine bk_241_54 ⟨fun _ => ?_, fun q => ?_⟩
    · rw [gnF_A]
      exact h M2 o2 z2
    · rw [iz_le (by omega) (by omega) (by omega) (by omega)] at q
      omega
  · rintro ρ M2 hρ ⟨o2, z2⟩ ih
    refine bk_241_54 ⟨fun q => ?_, fun _ => ?_⟩
    · rw [iz_le (by omega) (by omega) (by omega) (by omega)] at q
      omega
    have h3 := dF_3 hS (e := (e : Int)) (m := (S 1).toNat) (ρ := ρ)
    have hr := rngC hS h3
    have q0 : ρ = ρ / nB (Bs S (e : Int)) 0 := (Nat.div_one ρ).symm
    have key := zloop (P := fun i M3 => Off oTb M M3 ∧ rZ M3 S (e : Int) ∧ ∀ j, j < i → j ≠ e → M3.1 10 0 16 j = iz (cBd S (dF (Bs S (e : Int)) (fun _ => 0) (S 1).toNat ρ) j)) (G := fun i M3 => zGo Γ 241 Q 71 [some (zo 10 0 0), some (zi (iz (e : Int))), some (zi (iz (x : Int))), some (zl (lz (gnF S e (x : Int) ρ))), none, some (zi (iz ((nB (Bs S (e : Int)) (S 1).toNat : Nat) : Int))), some (zi (iz (ρ : Int))), some (zi (iz ((ρ / nB (Bs S (e : Int)) i : Nat) : Int))), some (zl (lz (prodTo (chF S (e : Int) (dF (Bs S (e : Int)) (fun _ => 0) (S 1).toNat ρ)) i))), none, some (zi (iz (i : Int))), none, none] [] M3) (n := (S 1).toNat) ?_ ?_ (S 1).toNat 0 M2 (by omega) ⟨o2, z2, fun j hj => by omega⟩
    · rw [← q0] at key
      exact key
    · rintro M3 ⟨o3, z3, b3⟩
      have B3 := hB.tb o3
      have m3 := hm.tb o3
      refine bk_241_71 ⟨fun _ => ⟨iz_inN (by omega) (by omega), ?_⟩, fun q => ?_⟩
      · rw [iz_clN (by omega)]
        have B4 : rB (zw M3 10 0 16 e (iz (x : Int))) b S := B3.w (by omega) (by omega)
        have e14' : (zw M3 10 0 16 e (iz (x : Int))).1 10 0 0 14 = iz ((S 1).toNat : Int) := (zw_ne (by omega)).trans (e14 o3)
        rw [e14']
        refine r_of B4 3 (by omega) rfl ⟨_, rfl, ?_⟩
        have hr' := rng_upd (i := e) (x := (x : Int)) hr (by omega)
        have bd4 : rBd (zw M3 10 0 16 e (iz (x : Int))) (S 1).toNat (updB (cBd S (dF (Bs S (e : Int)) (fun _ => 0) (S 1).toNat ρ)) e (x : Int)) (mkS S) (fun _ => false) := (m3.w (by omega)).tbd (fun j hj => by
          by_cases z : j = e
          · rw [z, zw_eq, updB_eq]
          · rw [zw_ne (by omega), updB_ne z]
            exact b3 j hj z)
        refine r_laysS hS B4 (by omega) hr' bd4 hS.2.2.2.1 (fun M5 o5 L5 => ⟨rfl, ?_⟩)
        have o5' : Off oTb M M5 := (o3.w _ (by unfold oTb; omega)).tr (o5.wk fun _ _ _ _ => rLy_tb)
        have t5 : M5.1 10 0 0 21 = iz (-1) := (o5'.1 _ _ _ _ (by unfold oTb; omega)).trans ht
        refine r_gainX hS (hB.tb o5') (by omega) L5 t5 (show e < 7 by omega) ⟨_, rfl, ?_⟩
        rw [gX_gain hS he]
        have gb := gX_b hS hr he (x := (x : Int)) (by omega)
        have nx := ih M5 ⟨o5', fun i hi q1 q2 => ?_⟩
        · rw [iz_lz (by omega) (by omega), lz_mul, lz_add, iz_s]
          exact nx
        · rw [o5.1 _ _ _ _ (rLy_n (by omega) (by omega) (by omega)), zw_ne (by omega)]
          exact z3 i hi q1 q2
      · rw [e14 o3, iz_le (by omega) (by omega) (by omega) (by omega)] at q
        omega
    · rintro i M3 hi ⟨o3, z3, b3⟩ ihi
      have B3 := hB.tb o3
      have h11 := (hS.2.2.2.2.2.2.2.2.2.2.1 i (by omega)).1
      have hn2 := nb3 i (by omega)
      have hnp := nB_pos (B := Bs S (e : Int)) Bs_pos i
      have hpi : dF (Bs S (e : Int)) (fun _ => 0) (S 1).toNat ρ i = ρ / nB (Bs S (e : Int)) i % Bs S (e : Int) i := by unfold dF; rw [if_pos hi]
      have hle : ρ / nB (Bs S (e : Int)) i ≤ ρ := Nat.div_le_self _ _
      rw [prodTo, nB, ← Nat.div_div_eq_div_mul] at ihi
      refine bk_241_71 ⟨fun q => ?_, fun _ => ?_⟩
      · rw [e14 o3, iz_le (by omega) (by omega) (by omega) (by omega)] at q
        omega
      rw [iz_eq (by omega) (by omega) (by omega) (by omega)]
      refine ⟨fun qe => ?_, fun qe => ⟨fun q => absurd rfl q, fun _ => ?_⟩⟩
      · rw [BsN qe] at ihi hpi
        refine r_of B3 (80 + i) (by omega) (e80 i) ⟨_, rfl, ?_⟩
        rw [iz0, iz_eq (by omega) (by omega) (by omega) (by omega)]
        refine ⟨fun q => ⟨q, q, ?_⟩, fun q => ?_⟩
        · have eS : S (80 + i) = ((max 1 (S (80 + i)).toNat : Nat) : Int) := by omega
          have hmod := iz_mod (a := ρ / nB (Bs S (e : Int)) i) (B := max 1 (S (80 + i)).toNat) (by omega) (by omega) (by omega)
          rw [← eS] at hmod
          rw [hmod.1, hmod.2, ← hpi]
          have hp3 := h3 i (by omega)
          have hk := Nat.mod_lt (ρ / nB (Bs S (e : Int)) i) (show 0 < max 1 (S (80 + i)).toNat by omega)
          rw [← hpi] at hk
          generalize hpk : dF (Bs S (e : Int)) (fun _ => 0) (S 1).toNat ρ i = k at *
          have e87 : (87 : Int32) + 6 * iz (i : Int) + 2 * iz (k : Int) = iz ((87 + 2 * (3 * i + k) : Nat) : Int) := by
            rw [show (87 : Int32) = iz 87 from rfl, show (6 : Int32) = iz 6 from rfl, show (2 : Int32) = iz 2 from rfl, iz_mul, iz_mul, iz_add, iz_add]
            exact congrArg iz (by omega)
          have hb := (hS.2.2.2.2.2.2.2.2.2.2.2.1 (3 * i + k) (by omega))
          rw [e87, iz_s, iz_clN (by omega)]
          refine r_of B3 (87 + 2 * (3 * i + k)) (by omega) rfl ⟨_, rfl, iz_inN (by omega) (by omega), r_of (B3.w (f := 16) (i := i) (x := iz (S (87 + 2 * (3 * i + k)))) (by omega) (by omega)) (88 + 2 * (3 * i + k)) (by omega) (congrArg iz (by omega)) ⟨_, rfl, ?_⟩⟩
          have nx := ihi (zw M3 10 0 16 i (iz (S (87 + 2 * (3 * i + k))))) ⟨o3.w _ (by unfold oTb; omega), fun j hj q1 q2 => ?_, fun j hj je => ?_⟩
          · have ec : chF S (e : Int) (dF (Bs S (e : Int)) (fun _ => 0) (S 1).toNat ρ) i = S (88 + 2 * (3 * i + k)) := by
              unfold chF
              rw [hpk, if_neg (by omega)]
            rw [ec] at nx
            rw [iz_lz (by omega) (by omega), lz_mul, iz_s]
            exact nx
          · rw [zw_ne (by rintro ⟨_, _, _, z⟩; subst z; omega)]
            exact z3 j hj q1 q2
          · by_cases z : j = i
            · rw [z, zw_eq]
              unfold cBd cB1
              rw [hpk, if_pos (by omega)]
            · rw [zw_ne (by omega)]
              exact b3 j (by omega) je
        · have e1 : max 1 (S (80 + i)).toNat = 1 := by omega
          rw [e1, Nat.div_one] at ihi
          have nx := ihi M3 ⟨o3, z3, fun j hj je => ?_⟩
          · have ec : chF S (e : Int) (dF (Bs S (e : Int)) (fun _ => 0) (S 1).toNat ρ) i = 1 := by
              unfold chF
              rw [if_pos (Or.inr (by omega))]
            rw [ec, Int.mul_one] at nx
            rw [iz_s]
            exact nx
          · by_cases z : j = i
            · rw [z, z3 i hi (by omega) (by omega)]
              unfold cBd cB1
              rw [if_neg (by omega)]
            · exact b3 j (by omega) je
      · have eB : Bs S (e : Int) i = 1 := by unfold Bs; rw [if_pos qe]
        rw [eB, Nat.div_one] at ihi
        have nx := ihi M3 ⟨o3, z3, fun j hj je => b3 j (by omega) je⟩
        have ec : chF S (e : Int) (dF (Bs S (e : Int)) (fun _ => 0) (S 1).toNat ρ) i = 1 := by
          unfold chF
          rw [if_pos (Or.inl qe)]
        rw [ec, Int.mul_one] at nx
        rw [iz_s]
        exact nx
theorem r_guess {x y m : Int32} (hW : rW M cnt SS) (ht0 : M.1 10 0 0 21 = iz (-1)) (h : ∀ M', Kp M M' → Q (some (zl (fL cnt SS x (fun S => gGuess S y m) (-4000000000000000000)))) M') : zEv Γ 242 [zo 10 0 0, zi x, zi y, zi m] M Q := by
  refine en_242 (bk_242_0 (r_takesSale hW (fun q => ⟨_, rfl, fun _ => ?_, fun q' => absurd rfl q'⟩) (fun s n M1 hs hx hn ho hB hb => ⟨_, rfl, fun q' => absurd q' (by decide), fun _ => ?_⟩)))
  · have := h M (Kp.rf M)
    rw [fL_out q] at this
    exact this
  · have hS := (hW.2.2 s hs).2
    have h7 := hS.2.1
    have en : n = (SS s 1).toNat := by omega
    subst en
    have ht1 : M1.1 10 0 0 21 = iz (-1) := (ho.1 _ _ _ _ (by unfold rSc; omega)).trans ht0
    rw [fL_in hs hW.2.1 hx] at h
    unfold gGuess at h
    refine r_isBidder hS hB (fun q => ⟨_, rfl, fun q' => absurd rfl q', fun _ => ?_⟩) (fun i hi hy => ⟨_, rfl, fun _ => ?_, fun q' => absurd q' (by decide)⟩)
    · have h2 := h M1 (Kp.ofR ho)
      rw [if_neg (by omega)] at h2
      exact h2
    · subst hy
      rw [iz_toInt (by omega) (by omega), if_pos (by omega), show ((i : Int).toNat) = i by omega] at h
      have oz : ∀ {M3 : zM} (v : Int64), Off rSc M1 M3 → Off rSc M1 (zwl M3 10 0 0 37 v) := fun v o => o.wl _ (by unfold rSc; omega)
      have lp := zloop (P := fun k M3 => Off rSc M1 M3 ∧ rMk M3 (SS s 1).toNat (mkS (SS s)) ∧ rB M3 (510 + 260 * s) (SS s) ∧ rZ M3 (SS s) (i : Int) ∧ (0 < k → M3.2 10 0 0 37 = gsF (SS s) i (fgr (gsF (SS s) i) (k - 1)))) (G := fun k M3 => zGo Γ 242 Q 26 [some (zo 10 0 0), none, some (zi (iz (i : Int))), some (zi m), some (zi (iz (if k = 0 then -1 else ((fgr (gsF (SS s) i) (k - 1) : Nat) : Int)))), some (zi (iz (k : Int))), none, none] [] M3) (n := 100) ?_ ?_ 100 0 M1 (by omega) ⟨Off.rf M1, hb.tmk, hB, hb.rz, fun z => by omega⟩
      · exact lp
      · rintro M3 ⟨o3, -, -, -, g3⟩
        have hf := fgr_le (f := gsF (SS s) i) (100 - 1)
        have h2 := h M3 (Kp.ofR (ho.tr o3))
        refine bk_242_26 ⟨fun _ => ⟨fun q => ?_, fun q => ?_⟩, fun q => absurd (by decide) q⟩
        · rw [if_pos q] at h2
          rw [if_neg (by omega), iz_lz (by omega) (by omega)]
          exact h2
        · rw [if_neg q] at h2
          rw [g3 (by omega)]
          exact h2
      · rintro k M3 hk ⟨o3, m3, B3, z3, g3⟩ ih
        have t3 : M3.1 10 0 0 21 = iz (-1) := (o3.1 _ _ _ _ (by unfold rSc; omega)).trans ht1
        refine bk_242_26 ⟨fun q => ?_, fun _ => r_gainBy hS B3 t3 m3 z3 (by omega) (by omega) (fun M4 o4 z4 => ⟨_, rfl, ?_⟩)⟩
        · rw [show (100 : Int32) = iz 100 from rfl, iz_le (by omega) (by omega) (by omega) (by omega)] at q
          omega
        have o4' : Off rSc M1 M4 := o3.tr (o4.wk fun _ _ _ _ => oTb_sc)
        have g4 : 0 < k → M4.2 10 0 0 37 = gsF (SS s) i (fgr (gsF (SS s) i) (k - 1)) := fun z => (o4.2 _ _ _ _ (by unfold oTb; omega)).trans (g3 z)
        have hgs : lz (gnA (SS s) i (k : Int)) = gsF (SS s) i k := rfl
        have set : (if k + 1 = 0 then (-1 : Int) else ((fgr (gsF (SS s) i) (k + 1 - 1) : Nat) : Int)) = (k : Int) → fgr (gsF (SS s) i) k = k → zGo Γ 242 Q 26 [some (zo 10 0 0), none, some (zi (iz (i : Int))), some (zi m), some (zi (iz (k : Int))), some (zi (iz (k : Int) + 1)), none, none] [] (zwl M4 10 0 0 37 (lz (gnA (SS s) i (k : Int)))) := by
          intro e1 e2
          have m4 := m3.tb o4
          have B4 := B3.tb o4
          have nx := ih (zwl M4 10 0 0 37 (lz (gnA (SS s) i (k : Int)))) ⟨oz _ o4', m4, B4, z4, fun _ => by
            rw [zwl_get, if_pos ⟨rfl, rfl, rfl, rfl⟩, show k + 1 - 1 = k by omega, e2, hgs]⟩
          rw [e1] at nx
          rw [iz_s]
          exact nx
        by_cases hk0 : k = 0
        · subst hk0
          refine ⟨fun _ => set rfl rfl, fun q => absurd (by rw [if_pos rfl]; decide) q⟩
        · rw [if_neg hk0]
          have hf := fgr_le (f := gsF (SS s) i) (k - 1)
          have ef : fgr (gsF (SS s) i) k = if 0 < lg_cmp (gsF (SS s) i k) (gsF (SS s) i (fgr (gsF (SS s) i) (k - 1))) then k else fgr (gsF (SS s) i) (k - 1) := by
            obtain ⟨k', rfl⟩ : ∃ k', k = k' + 1 := ⟨k - 1, by omega⟩
            rw [show k' + 1 - 1 = k' by omega]
            rfl
          refine ⟨fun q => ?_, fun _ => ?_⟩
          · rw [iz0, iz_lt (by omega) (by omega) (by omega) (by omega)] at q
            omega
          · rw [g4 (by omega), hgs]
            refine ⟨fun q => ?_, fun q => ?_⟩
            · rw [if_pos q] at ef
              have := set (by rw [if_neg (by omega), show k + 1 - 1 = k by omega, ef]) ef
              exact this
            · rw [if_neg q] at ef
              have nx := ih M4 ⟨o4', m3.tb o4, B3.tb o4, z4, fun _ => by rw [g4 (by omega), show k + 1 - 1 = k by omega, ef]⟩
              rw [if_neg (by omega), show k + 1 - 1 = k by omega, ef] at nx
              rw [iz_s]
              exact nx
end Z72
