/-! the reference's taken; high -/
def rZ (M : zM) (S : SB) (e : Int) : Prop := ∀ i, i < (S 1).toNat → (i : Int) ≠ e → S (80 + i) ≤ 0 → M.1 10 0 16 i = iz (S (17 + i))
def oTb (c t f i : Nat) : Prop := c = 10 ∧ t = 0 ∧ ((f = 0 ∧ i = 18) ∨ f = 16 ∨ f = 20 ∨ f = 21)
def tkF (S : SB) (bar : Int) (m : Nat) : Int := sumTo (fun ρ => fT S bar (dF (Bs S (-1)) (fun _ => 0) (S 1).toNat ρ)) m
def fgr (f : Nat → Int64) : Nat → Nat
  | 0 => 0
  | k + 1 => if 0 < lg_cmp (f (k + 1)) (f (fgr f k)) then k + 1 else fgr f k
def gHigh (S : SB) : Int := ((fgr (fun k => lz (tkA S (k : Int))) 99 : Nat) : Int)
theorem fgr_le {f : Nat → Int64} : ∀ k, fgr f k ≤ k
  | 0 => Nat.le_refl 0
  | k + 1 => by
    have := fgr_le (f := f) k
    rw [fgr]
    split <;> omega
theorem oTb_sc {c t f i : Nat} (h : oTb c t f i) : rSc c t f i := by
  unfold oTb at h
  unfold rSc
  omega
theorem rLy_tb {c t f i : Nat} (h : rLy c t f i) : oTb c t f i := by
  unfold rLy at h
  unfold oTb
  omega
theorem tkF_A {S : SB} {bar : Int} : tkF S bar (nB (Bs S (-1)) (S 1).toNat) = tkA S bar := (sum_rows Bs_pos (S 1).toNat (fT S bar)).symm
theorem BsN {S : SB} {i : Nat} {e : Int} (h : (i : Int) ≠ e) : Bs S e i = max 1 (S (80 + i)).toNat := by unfold Bs; rw [if_neg h]
section Z67
variable {Γ : zC} {Q : zQ} {M : zM} {b ts cnt : Nat} {S : SB} {SS : Nat → SB}
theorem rB.tb {M M' : zM} (h : rB M b S) (ho : Off oTb M M') : rB M' b S := h.off ho (by unfold oTb; intro i; omega) (by unfold oTb; omega) (by unfold oTb; omega) (by unfold oTb; omega)
theorem rMk.tb {M M' : zM} {n : Nat} {mk : Nat → Int} (h : rMk M n mk) (ho : Off oTb M M') : rMk M' n mk := fun i hi => ⟨(ho.1 _ _ _ _ (by unfold oTb; omega)).trans (h i hi).1, (ho.1 _ _ _ _ (by unfold oTb; omega)).trans (h i hi).2⟩
theorem r_takenBy {bar : Int} (hS : SOK S) (hB : rB M b S) (hm : rMk M (S 1).toNat (mkS S)) (hz : rZ M S (-1)) (hbar : 0 ≤ bar ∧ bar ≤ 99) (h : ∀ M', Off oTb M M' → rZ M' S (-1) → Q (some (zl (lz (tkA S bar)))) M') : zEv Γ 225 [zo 10 0 0, zi (iz bar)] M Q := by
  have h7 := hS.2.1
  have h6 := hS.1
  have hN := nB_2187 hS (e := -1)
  have nb3 : ∀ m, m ≤ (S 1).toNat → nB (Bs S (-1)) m ≤ 2187 := fun m hm => by
    have h1 := nB_le hS (e := -1) m (by omega)
    have h2 : 3 ^ m ≤ 3 ^ 7 := Nat.pow_le_pow_right (by omega) (by omega)
    have h3 : 3 ^ 7 = 2187 := by decide
    omega
  have e14 : ∀ {M2 : zM}, Off oTb M M2 → M2.1 10 0 0 14 = iz ((S 1).toNat : Int) := fun {M2} o2 => by
    rw [(hB.tb o2).2.2.1]
    exact congrArg iz (by omega)
  have e80 : ∀ i : Nat, (80 : Int32) + iz (i : Int) = iz ((80 + i : Nat) : Int) := fun i => by
    rw [show (80 : Int32) = iz 80 from rfl, iz_add]
    exact congrArg iz (by omega)
  -- the rows
  have rows := zloop (P := fun ρ M2 => Off oTb M M2 ∧ rZ M2 S (-1)) (G := fun ρ M2 => zGo Γ 225 Q 44 [some (zo 10 0 0), some (zi (iz bar)), some (zl (lz (tkF S bar ρ))), none, some (zi (iz ((nB (Bs S (-1)) (S 1).toNat : Nat) : Int))), some (zi (iz (ρ : Int))), none, none, none, none, none, none] [] M2) (n := nB (Bs S (-1)) (S 1).toNat) ?_ ?_ (nB (Bs S (-1)) (S 1).toNat) 0 M (by omega) ⟨Off.rf M, hz⟩
  · refine en_225 (bk_225_0 ?_)
    refine nloop (G := fun i => zGo Γ 225 Q 8 [some (zo 10 0 0), some (zi (iz bar)), some (zl (0 : Int64)), none, some (zi (iz ((nB (Bs S (-1)) i : Nat) : Int))), some (zi (iz (i : Int))), none, none, none, none, none, none] [] M) (n := (S 1).toNat) ?_ (fun i hi ih => ?_) (S 1).toNat 0 (by omega)
    · refine bk_225_8 ⟨fun _ => rows, fun q => ?_⟩
      rw [e14 (Off.rf M), iz_le (by omega) (by omega) (by omega) (by omega)] at q
      omega
    · have h11 := (hS.2.2.2.2.2.2.2.2.2.2.1 i (by omega)).1
      refine bk_225_8 ⟨fun q => ?_, fun _ => r_of hB (80 + i) (by omega) (e80 i) ⟨_, rfl, r_greater (x := 1) (by omega) (by omega) ⟨_, rfl, ?_⟩⟩⟩
      · rw [e14 (Off.rf M), iz_le (by omega) (by omega) (by omega) (by omega)] at q
        omega
      · rw [nB, BsN (by omega)] at ih
        rw [iz_mul, iz_s, show ((nB (Bs S (-1)) i : Nat) : Int) * max 1 (S (80 + i)) = ((nB (Bs S (-1)) i * max 1 (S (80 + i)).toNat : Nat) : Int) by
          rw [Int.natCast_mul]
          congr 1
          omega]
        exact ih
  · rintro M2 ⟨o2, z2⟩
    refine bk_225_44 ⟨fun _ => ?_, fun q => ?_⟩
    · rw [tkF_A]
      exact h M2 o2 z2
    · rw [iz_le (by omega) (by omega) (by omega) (by omega)] at q
      omega
  · rintro ρ M2 hρ ⟨o2, z2⟩ ih
    refine bk_225_44 ⟨fun q => ?_, fun _ => ?_⟩
    · rw [iz_le (by omega) (by omega) (by omega) (by omega)] at q
      omega
    have h3 := dF_3 hS (e := -1) (m := (S 1).toNat) (ρ := ρ)
    have hr := rngC hS h3
    have q0 : ρ = ρ / nB (Bs S (-1)) 0 := (Nat.div_one ρ).symm
    have key := zloop (P := fun i M3 => Off oTb M M3 ∧ rZ M3 S (-1) ∧ ∀ j, j < i → M3.1 10 0 16 j = iz (cBd S (dF (Bs S (-1)) (fun _ => 0) (S 1).toNat ρ) j)) (G := fun i M3 => zGo Γ 225 Q 61 [some (zo 10 0 0), some (zi (iz bar)), some (zl (lz (tkF S bar ρ))), none, some (zi (iz ((nB (Bs S (-1)) (S 1).toNat : Nat) : Int))), some (zi (iz (ρ : Int))), some (zi (iz ((ρ / nB (Bs S (-1)) i : Nat) : Int))), some (zl (lz (prodTo (chF S (-1) (dF (Bs S (-1)) (fun _ => 0) (S 1).toNat ρ)) i))), none, some (zi (iz (i : Int))), none, none] [] M3) (n := (S 1).toNat) ?_ ?_ (S 1).toNat 0 M2 (by omega) ⟨o2, z2, fun j hj => by omega⟩
    · rw [← q0] at key
      exact key
    · rintro M3 ⟨o3, z3, b3⟩
      have B3 := hB.tb o3
      have m3 := hm.tb o3
      refine bk_225_61 ⟨fun _ => ?_, fun q => ?_⟩
      · rw [e14 o3]
        refine r_laysE (bd := cBd S (dF (Bs S (-1)) (fun _ => 0) (S 1).toNat ρ)) (mk := mkS S) (ex := fun _ => false) hS B3 (by omega) hr (m3.tbd b3) hbar (fun M4 o4 ho4 hp4 => ⟨rfl, ?_⟩)
        have o4' := o3.tr (o4.wk fun _ _ _ _ => rLy_tb)
        have tb := tkB_b hS hr hbar
        refine r_takeNow (nb := (S 0).toNat) hS (by omega) (hB.tb o4') hp4 ⟨_, rfl, ?_⟩
        have nx := ih M4 ⟨o4', fun i hi q1 q2 => (o4.1 _ _ _ _ (rLy_n (by omega) (by omega) (by omega))).trans (z3 i hi q1 q2)⟩
        have et : sumTo (payB S (cBd S (dF (Bs S (-1)) (fun _ => 0) (S 1).toNat ρ)) (mkS S) bar (lin (cBd S (dF (Bs S (-1)) (fun _ => 0) (S 1).toNat ρ)) (mkS S) (fun _ => false) bar (S 1).toNat) (S 0).toNat) (S 0).toNat = tkB S (cBd S (dF (Bs S (-1)) (fun _ => 0) (S 1).toNat ρ)) bar := rfl
        rw [et, iz_lz (by omega) (by omega), lz_mul, lz_add, iz_s]
        exact nx
      · rw [e14 o3, iz_le (by omega) (by omega) (by omega) (by omega)] at q
        omega
    · rintro i M3 hi ⟨o3, z3, b3⟩ ihi
      have B3 := hB.tb o3
      have h11 := (hS.2.2.2.2.2.2.2.2.2.2.1 i (by omega)).1
      have hn2 := nb3 i (by omega)
      have hnp := nB_pos (B := Bs S (-1)) Bs_pos i
      have hpi : dF (Bs S (-1)) (fun _ => 0) (S 1).toNat ρ i = ρ / nB (Bs S (-1)) i % Bs S (-1) i := by unfold dF; rw [if_pos hi]
      have hle : ρ / nB (Bs S (-1)) i ≤ ρ := Nat.div_le_self _ _
      rw [prodTo, nB, ← Nat.div_div_eq_div_mul, BsN (by omega)] at ihi
      rw [BsN (by omega)] at hpi
      refine bk_225_61 ⟨fun q => ?_, fun _ => r_of B3 (80 + i) (by omega) (e80 i) ⟨_, rfl, ?_⟩⟩
      · rw [e14 o3, iz_le (by omega) (by omega) (by omega) (by omega)] at q
        omega
      rw [iz0, iz_eq (by omega) (by omega) (by omega) (by omega)]
      refine ⟨fun q => ⟨q, q, ?_⟩, fun q => ?_⟩
      · have eS : S (80 + i) = ((max 1 (S (80 + i)).toNat : Nat) : Int) := by omega
        have hmod := iz_mod (a := ρ / nB (Bs S (-1)) i) (B := max 1 (S (80 + i)).toNat) (by omega) (by omega) (by omega)
        rw [← eS] at hmod
        rw [hmod.1, hmod.2, ← hpi]
        have hp3 := h3 i (by omega)
        have hk := Nat.mod_lt (ρ / nB (Bs S (-1)) i) (show 0 < max 1 (S (80 + i)).toNat by omega)
        rw [← hpi] at hk
        generalize hpk : dF (Bs S (-1)) (fun _ => 0) (S 1).toNat ρ i = k at *
        have e87 : (87 : Int32) + 6 * iz (i : Int) + 2 * iz (k : Int) = iz ((87 + 2 * (3 * i + k) : Nat) : Int) := by
          rw [show (87 : Int32) = iz 87 from rfl, show (6 : Int32) = iz 6 from rfl, show (2 : Int32) = iz 2 from rfl, iz_mul, iz_mul, iz_add, iz_add]
          exact congrArg iz (by omega)
        have hb := (hS.2.2.2.2.2.2.2.2.2.2.2.1 (3 * i + k) (by omega))
        rw [e87, iz_s, iz_clN (by omega)]
        refine r_of B3 (87 + 2 * (3 * i + k)) (by omega) rfl ⟨_, rfl, iz_inN (by omega) (by omega), r_of (B3.w (f := 16) (i := i) (x := iz (S (87 + 2 * (3 * i + k)))) (by omega) (by omega)) (88 + 2 * (3 * i + k)) (by omega) (congrArg iz (by omega)) ⟨_, rfl, ?_⟩⟩
        have nx := ihi (zw M3 10 0 16 i (iz (S (87 + 2 * (3 * i + k))))) ⟨o3.w _ (by unfold oTb; omega), fun j hj q1 q2 => ?_, fun j hj => ?_⟩
        · have ec : chF S (-1) (dF (Bs S (-1)) (fun _ => 0) (S 1).toNat ρ) i = S (88 + 2 * (3 * i + k)) := by
            unfold chF
            rw [hpk, if_neg (by omega)]
          rw [ec] at nx
          rw [iz_lz (by omega) (by omega), lz_mul, iz_s]
          exact nx
        · rw [zw_ne (by rintro ⟨_, _, _, e⟩; subst e; omega)]
          exact z3 j hj q1 q2
        · by_cases e : j = i
          · rw [e, zw_eq]
            unfold cBd cB1
            rw [hpk, if_pos (by omega)]
          · rw [zw_ne (by omega)]
            exact b3 j (by omega)
      · have e1 : max 1 (S (80 + i)).toNat = 1 := by omega
        rw [e1, Nat.div_one] at ihi
        have nx := ihi M3 ⟨o3, z3, fun j hj => ?_⟩
        · have ec : chF S (-1) (dF (Bs S (-1)) (fun _ => 0) (S 1).toNat ρ) i = 1 := by
            unfold chF
            rw [if_pos (Or.inr (by omega))]
          rw [ec, Int.mul_one] at nx
          rw [iz_s]
          exact nx
        · by_cases e : j = i
          · rw [e, z3 i hi (by omega) (by omega)]
            unfold cBd cB1
            rw [if_neg (by omega)]
          · exact b3 j (by omega)
theorem rBd.rz {M : zM} (h : rBd M (S 1).toNat (fun i => S (17 + i)) (fun i => S (24 + i)) (fun _ => false)) {e : Int} : rZ M S e := fun i hi _ _ => (h i hi).1
theorem r_taken {x y : Int32} (hW : rW M cnt SS) (h : ∀ M', Kp M M' → Q (some (zl (fL cnt SS x (fun S => gTaken S y) (-1)))) M') : zEv Γ 226 [zo 10 0 0, zi x, zi y] M Q := by
  refine en_226 (bk_226_0 (r_takesSale hW (fun q => ⟨_, rfl, fun _ => ?_, fun q' => absurd rfl q'⟩) (fun s n M1 hs hx hn ho hB hb => ⟨_, rfl, fun q' => absurd q' (by decide), fun _ => ?_⟩)))
  · have := h M (Kp.rf M)
    rw [fL_out q] at this
    exact this
  · have hS := (hW.2.2 s hs).2
    have en : n = (SS s 1).toNat := by omega
    subst en
    rw [fL_in hs hW.2.1 hx] at h
    unfold gTaken at h
    obtain ⟨a, ha1, ha2, rfl⟩ := iz_ex y
    rw [iz_toInt ha1 ha2] at h
    refine r_isIn (lo := 0) (hi := 99) (by omega) (by omega) (by omega) (fun q3 q4 => ⟨_, rfl, fun q' => absurd q' (by decide), fun _ => ?_⟩) (fun q3 => ⟨_, rfl, fun _ => ?_, fun q' => absurd rfl q'⟩)
    · rw [if_pos (by omega)] at h
      exact r_takenBy hS hB hb.tmk hb.rz (by omega) (fun M2 o2 z2 => ⟨_, rfl, h M2 (Kp.ofR (ho.tr (o2.wk fun _ _ _ _ => oTb_sc)))⟩)
    · have h2 := h M1 (Kp.ofR ho)
      rw [if_neg (by omega)] at h2
      exact h2
theorem r_high {x : Int32} (hW : rW M cnt SS) (h : ∀ M', Kp M M' → Q (some (zi (iz (fS cnt SS x gHigh (-1))))) M') : zEv Γ 227 [zo 10 0 0, zi x] M Q := by
  refine en_227 (bk_227_0 (r_takesSale hW (fun q => ⟨_, rfl, fun q' => absurd rfl q', fun _ => ?_⟩) (fun s n M1 hs hx hn ho hB hb => ⟨_, rfl, fun _ => ?_, fun q' => absurd q' (by decide)⟩)))
  · have := h M (Kp.rf M)
    rw [fS_out q] at this
    exact this
  · have hS := (hW.2.2 s hs).2
    have en : n = (SS s 1).toNat := by omega
    subst en
    rw [fS_in hs hW.2.1 hx] at h
    refine r_takenBy (bar := 0) hS hB hb.tmk hb.rz (by omega) (fun M2 o2 z2 => ⟨_, rfl, ?_⟩)
    refine zloop (P := fun k M3 => Off oTb M1 M3 ∧ rZ M3 (SS s) (-1)) (G := fun k M3 => zGo Γ 227 Q 21 [some (zo 10 0 0), none, some (zi (iz ((fgr (fun k => lz (tkA (SS s) (k : Int))) k : Nat) : Int))), some (zl (lz (tkA (SS s) ((fgr (fun k => lz (tkA (SS s) (k : Int))) k : Nat) : Int)))), none, some (zi (iz ((k + 1 : Nat) : Int))), none, none] [] M3) (n := 99) ?_ ?_ 99 0 M2 (by omega) ⟨o2, z2⟩
    · rintro M3 ⟨o3, z3⟩
      exact bk_227_21 ⟨fun _ => h M3 (Kp.ofR (ho.tr (o3.wk fun _ _ _ _ => oTb_sc))), fun q => absurd (by decide) q⟩
    · rintro k M3 hk ⟨o3, z3⟩ ih
      refine bk_227_21 ⟨fun q => ?_, fun _ => r_takenBy hS (hB.tb o3) (hb.tmk.tb o3) z3 (by omega) (fun M4 o4 z4 => ⟨_, rfl, ?_⟩)⟩
      · rw [show (100 : Int32) = iz 100 from rfl, iz_le (by omega) (by omega) (by omega) (by omega)] at q
        omega
      · have nx := ih M4 ⟨o3.tr o4, z4⟩
        rw [fgr] at nx
        rw [iz_s]
        refine ⟨fun q => ?_, fun q => ?_⟩
        · rw [if_pos q] at nx
          exact nx
        · rw [if_neg q] at nx
          exact nx
theorem c_firstGreatest {f : Nat → Int64} (hs : ∀ k, k < 100 → M.2 0 0 4 k = f k) (h : Q (some (zi (iz ((fgr f 99 : Nat) : Int)))) M) : zEv Γ 7 [zo 0 0 0] M Q := by
  refine en_7 (bk_7_0 ?_)
  refine nloop (G := fun k => zGo Γ 7 Q 4 [some (zo 0 0 0), some (zi (iz ((fgr f k : Nat) : Int))), some (zi (iz ((k + 1 : Nat) : Int)))] [] M) (n := 99) ?_ (fun k hk ih => ?_) 99 0 (by omega)
  · exact bk_7_4 ⟨fun _ => h, fun q => absurd (by decide) q⟩
  · have hf := fgr_le (f := f) k
    refine bk_7_4 ⟨fun q => ?_, fun _ => ⟨iz_inN (by omega) (by omega), iz_inN (by omega) (by omega), ?_⟩⟩
    · rw [show (99 : Int32) = iz 99 from rfl, iz_lt (by omega) (by omega) (by omega) (by omega)] at q
      omega
    · rw [iz_clN (by omega), iz_clN (by omega), hs (k + 1) (by omega), hs _ (by omega), iz_s]
      rw [fgr] at ih
      refine ⟨fun q => ?_, fun q => ?_⟩
      · rw [if_neg (Int32.not_lt.mpr q)] at ih
        exact ih
      · rw [if_pos (Int32.not_le.mp q)] at ih
        exact ih
end Z67
