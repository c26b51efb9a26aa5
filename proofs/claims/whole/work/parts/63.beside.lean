/-! the reference's beside -/
def oBe (c t f _i : Nat) : Prop := c = 10 ∧ t = 0 ∧ f = 36
def bw (S : SB) : Nat → Nat → Int := bW S (worS S)
def rBc (M : zM) (S : SB) (P : Nat → Nat → Nat → Prop) : Prop := ∀ j s a, P j s a → j ≤ (S 0).toNat → s < 2 ^ (S 1).toNat → a = 7 ∨ a < (S 1).toNat → M.1 10 0 36 (1024 * j + 8 * s + a) = iz (mv S true (S 0).toNat (bw S) ((S 0).toNat - j) s a)
theorem oBe_sc {c t f i : Nat} (h : oBe c t f i) : rSc c t f i := by
  unfold oBe at h
  unfold rSc
  omega
theorem bw_b {S : SB} (hS : SOK S) : ∀ i j, i < 7 → j < (S 0).toNat → 0 ≤ bw S i j ∧ bw S i j ≤ 10800 := fun i j _ hj => by
  unfold bw bW wR
  split
  · rw [exR_m]
    exact worS_W hS i j (by omega) hj
  · omega
section Z63
variable {Γ : zC} {Q : zQ} {M : zM} {b cnt : Nat} {S : SB} {SS : Nat → SB}
theorem rB.be {M M' : zM} (h : rB M b S) (ho : Off oBe M M') : rB M' b S := h.off ho (by unfold oBe; intro i; omega) (by unfold oBe; omega) (by unfold oBe; omega) (by unfold oBe; omega)
theorem be_ix {j s a : Nat} : (1024 : Int32) * iz (j : Int) + 8 * iz (s : Int) + iz (a : Int) = iz ((1024 * j + 8 * s + a : Nat) : Int) := by
  rw [show (1024 : Int32) = iz 1024 from rfl, show (8 : Int32) = iz 8 from rfl, iz_mul, iz_mul, iz_add, iz_add]
  exact congrArg iz (by omega)
theorem r_step7 {j s a : Nat} (hS : SOK S) (hj : j < (S 0).toNat) (hs : s < 2 ^ (S 1).toNat) (hc : rBc M S (fun j' _ _ => j < j')) (h : Q (some (zi (iz (mv S true (S 0).toNat (bw S) ((S 0).toNat - (j + 1)) s 7)))) M) : zEv Γ 231 [zo 10 0 0, zi (iz (j : Int)), zi (iz (s : Int)), zi (iz (a : Int)), zi 7] M Q := by
  have h6 := hS.1
  have h7 := hS.2.1
  have hp := bit_p (S 1).toNat (by omega)
  refine en_231 (bk_231_0 ⟨fun q => absurd rfl q, fun _ => ?_⟩)
  have e : (1024 : Int32) * (iz (j : Int) + 1) + 8 * iz (s : Int) + 7 = iz ((1024 * (j + 1) + 8 * s + 7 : Nat) : Int) := by
    rw [iz_s]
    exact be_ix (a := 7)
  rw [e, iz_clN (by omega), hc (j + 1) s 7 (by omega) (by omega) hs (Or.inl rfl)]
  exact ⟨iz_inN (by omega) (by omega), h⟩
theorem r_step {j s a i : Nat} (hS : SOK S) (hB : rB M b S) (ht : M.1 10 0 0 21 = iz (-1)) (hj : j < (S 0).toNat) (hs : s < 2 ^ (S 1).toNat) (ha : a ≤ 7) (hi : i < (S 1).toNat) (hc : rBc M S (fun j' _ _ => j < j')) (h : Q (some (zi (iz (if may S s a i = true then cnd S true (S 0).toNat (bw S) j s a i else -1000000)))) M) : zEv Γ 231 [zo 10 0 0, zi (iz (j : Int)), zi (iz (s : Int)), zi (iz (a : Int)), zi (iz (i : Int))] M Q := by
  have h6 := hS.1
  have h7 := hS.2.1
  have hp := bit_p (S 1).toNat (by omega)
  have hb := bit_or s (by omega) i (by omega)
  have ew : bw S i j = worS S i j := by
    unfold bw bW wR
    rw [if_pos hi, exR_m]
  have ei : (1024 : Int32) * (iz (j : Int) + 1) + 8 * iz ((s ||| 2 ^ i : Nat) : Int) + iz (i : Int) = iz ((1024 * (j + 1) + 8 * (s ||| 2 ^ i) + i : Nat) : Int) := by
    rw [iz_s]
    exact be_ix
  have cell := hc (j + 1) (s ||| 2 ^ i) i (by omega) (by omega) (bit_lt _ (by omega) s hs i hi) (Or.inr hi)
  have e7 : ¬ iz (i : Int) = 7 := by
    rw [show (7 : Int32) = iz 7 from rfl, iz_eq (by omega) (by omega) (by omega) (by omega)]
    omega
  have q7 : ((7 : Int32) ≤ iz (a : Int)) = (7 ≤ (a : Int)) := by
    rw [show (7 : Int32) = iz 7 from rfl, iz_le (by omega) (by omega) (by omega) (by omega)]
  refine en_231 (bk_231_0 ⟨fun _ => ?_, fun q => absurd q e7⟩)
  rw [bit_get s (by omega) i (by omega), hb.1, ei, iz_clN (by omega), q7]
  unfold may at h
  cases htb : s.testBit i with
  | true =>
    rw [htb] at h
    exact ⟨fun q => absurd rfl q, fun _ => h⟩
  | false =>
    rw [htb] at h
    refine ⟨fun _ => ⟨fun q => ⟨fun _ => ?_, fun q2 => absurd q q2⟩, fun q => ?_⟩, fun q => absurd q (by decide)⟩
    · have ea : a = 7 := by omega
      subst ea
      refine r_worS hS hB ht (by omega) (by omega) ⟨_, rfl, iz_inN (by omega) (by omega), ?_⟩
      have ec : cnd S true (S 0).toNat (bw S) j s 7 i = worS S i j + 0 + mv S true (S 0).toNat (bw S) ((S 0).toNat - (j + 1)) (s ||| 2 ^ i) i := by
        unfold cnd frS lbB
        rw [ew]
        simp
      rw [if_pos (by simp), ec] at h
      rw [cell, iz0, iz_add, iz_add]
      exact h
    · have hfo := hS.2.2.2.2.2.2.2.2.2.2.2.2.2.1 (7 * a + i) (by omega)
      have ef : (178 : Int32) + 7 * iz (a : Int) + iz (i : Int) = iz ((178 + (7 * a + i) : Nat) : Int) := by
        rw [show (178 : Int32) = iz 178 from rfl, show (7 : Int32) = iz 7 from rfl, iz_mul, iz_add, iz_add]
        exact congrArg iz (by omega)
      have eg : (129 : Int32) + 7 * iz (a : Int) + iz (i : Int) = iz ((129 + (7 * a + i) : Nat) : Int) := by
        rw [show (129 : Int32) = iz 129 from rfl, show (7 : Int32) = iz 7 from rfl, iz_mul, iz_add, iz_add]
        exact congrArg iz (by omega)
      rw [decide_eq_false (show ¬ a = 7 by omega)] at h
      refine r_of hB (178 + (7 * a + i)) (by omega) ef ⟨_, rfl, ?_⟩
      rw [iz1, iz_eq (by omega) (by omega) (by omega) (by omega)]
      refine ⟨fun q1 => ⟨fun q2 => absurd q2 q, fun _ => r_of hB (129 + (7 * a + i)) (by omega) eg ⟨_, rfl, r_worS hS hB ht (by omega) (by omega) ⟨_, rfl, iz_inN (by omega) (by omega), ?_⟩⟩⟩, fun q1 => ?_⟩
      · have ec : cnd S true (S 0).toNat (bw S) j s a i = worS S i j + S (129 + (7 * a + i)) + mv S true (S 0).toNat (bw S) ((S 0).toNat - (j + 1)) (s ||| 2 ^ i) i := by
          unfold cnd frS lbB
          rw [ew, if_neg (by omega)]
          simp
        rw [if_pos (by simp; omega), ec] at h
        rw [cell, iz_add, iz_add]
        exact h
      · rw [if_neg (by simp; omega)] at h
        exact h
theorem r_besideNow (hS : SOK S) (hB : rB M b S) (ht : M.1 10 0 0 21 = iz (-1)) (h : ∀ M', Off oBe M M' → rBc M' S (fun _ _ _ => True) → Q none M') : zEv Γ 232 [zo 10 0 0] M Q := by
  have h6 := hS.1
  have h7 := hS.2.1
  have hp := bit_p (S 1).toNat (by omega)
  have hp1 : 0 < 2 ^ (S 1).toNat := Nat.two_pow_pos _
  have hw := bw_b hS
  have e13 : M.1 10 0 0 13 = iz ((S 0).toNat : Int) := by rw [hB.2.1]; exact congrArg iz (by omega)
  refine en_232 (bk_232_0 ?_)
  rw [e13]
  have lp : ∀ (d D : Nat) (M2 : zM), D + d = (S 0).toNat + 1 → (Off oBe M M2 ∧ rBc M2 S (fun j _ _ => (S 0).toNat < j + D)) → zGo Γ 232 Q 5 [some (zo 10 0 0), some (zi (iz (((S 0).toNat : Int) - (D : Int)))), none, none, none, none] [] M2 := by
    refine zloop (P := fun D M2 => Off oBe M M2 ∧ rBc M2 S (fun j _ _ => (S 0).toNat < j + D)) (G := fun D M2 => zGo Γ 232 Q 5 [some (zo 10 0 0), some (zi (iz (((S 0).toNat : Int) - (D : Int)))), none, none, none, none] [] M2) (n := (S 0).toNat + 1) ?_ ?_
    · rintro M2 ⟨o2, c2⟩
      refine bk_232_5 ⟨fun _ => h M2 o2 (fun j s a _ h1 h2 h3 => c2 j s a (by omega) h1 h2 h3), fun q => ?_⟩
      rw [iz0, iz_lt (by omega) (by omega) (by omega) (by omega)] at q
      omega
    · rintro D M2 hD ⟨o2, c2⟩ ih
      have ej : ((S 0).toNat : Int) - (D : Int) = (((S 0).toNat - D : Nat) : Int) := by omega
      rw [ej]
      refine bk_232_5 ⟨fun q => ?_, fun _ => ?_⟩
      · rw [iz0, iz_lt (by omega) (by omega) (by omega) (by omega)] at q
        omega
      have hjR : (S 0).toNat - D ≤ (S 0).toNat := by omega
      have hjD : (S 0).toNat - D + D = (S 0).toNat := by omega
      generalize (S 0).toNat - D = j at *
      refine zloop (P := fun s M3 => Off oBe M M3 ∧ rBc M3 S (fun j' s' _ => j < j' ∨ j' = j ∧ s' < s)) (G := fun s M3 => zGo Γ 232 Q 11 [some (zo 10 0 0), some (zi (iz (j : Int))), some (zi (iz (s : Int))), none, none, none] [] M3) (n := 2 ^ (S 1).toNat) ?_ ?_ (2 ^ (S 1).toNat) 0 M2 (by omega) ⟨o2, fun j' s' a' h0 h1 h2 h3 => c2 j' s' a' (by omega) h1 h2 h3⟩
      · rintro M3 ⟨o3, c3⟩
        have B3 := hB.be o3
        have e14 : M3.1 10 0 0 14 = iz ((S 1).toNat : Int) := by rw [B3.2.2.1]; exact congrArg iz (by omega)
        refine bk_232_11 ⟨fun _ => ?_, fun q => ?_⟩
        · rw [show iz (j : Int) + (-1) = iz (((S 0).toNat : Int) - ((D + 1 : Nat) : Int)) by rw [iz_m1, iz_add]; exact congrArg iz (by omega)]
          exact ih M3 ⟨o3, fun j' s' a' h0 h1 h2 h3 => c3 j' s' a' (by omega) h1 h2 h3⟩
        · rw [e14, bit_sh _ (by omega), iz_le (by omega) (by omega) (by omega) (by omega)] at q
          omega
      · rintro s M3 hs ⟨o3, c3⟩ ih3
        have B3 := hB.be o3
        have e14 : M3.1 10 0 0 14 = iz ((S 1).toNat : Int) := by rw [B3.2.2.1]; exact congrArg iz (by omega)
        refine bk_232_11 ⟨fun q => ?_, fun _ => ?_⟩
        · rw [e14, bit_sh _ (by omega), iz_le (by omega) (by omega) (by omega) (by omega)] at q
          omega
        refine zloop (P := fun a M4 => Off oBe M M4 ∧ rBc M4 S (fun j' s' a' => j < j' ∨ j' = j ∧ s' < s ∨ j' = j ∧ s' = s ∧ a' < a)) (G := fun a M4 => zGo Γ 232 Q 23 [some (zo 10 0 0), some (zi (iz (j : Int))), some (zi (iz (s : Int))), some (zi (iz (a : Int))), none, none] [] M4) (n := 8) ?_ ?_ 8 0 M3 (by omega) ⟨o3, fun j' s' a' h0 h1 h2 h3 => c3 j' s' a' (by omega) h1 h2 h3⟩
        · rintro M4 ⟨o4, c4⟩
          refine bk_232_23 ⟨fun _ => ?_, fun q => absurd (by decide) q⟩
          rw [iz_s]
          exact ih3 M4 ⟨o4, fun j' s' a' h0 h1 h2 h3 => c4 j' s' a' (by omega) h1 h2 h3⟩
        · rintro a M4 ha ⟨o4, c4⟩ ih4
          have B4 := hB.be o4
          have t4 : M4.1 10 0 0 21 = iz (-1) := (o4.1 _ _ _ _ (by unfold oBe; omega)).trans ht
          have f13 : M4.1 10 0 0 13 = iz ((S 0).toNat : Int) := by rw [B4.2.1]; exact congrArg iz (by omega)
          have f14 : M4.1 10 0 0 14 = iz ((S 1).toNat : Int) := by rw [B4.2.2.1]; exact congrArg iz (by omega)
          have cj : rBc M4 S (fun j' _ _ => j < j') := fun j' s' a' h0 h1 h2 h3 => c4 j' s' a' (by omega) h1 h2 h3
          have wr : a = 7 ∨ a < (S 1).toNat → vp_in (1024 * iz (j : Int) + 8 * iz (s : Int) + iz (a : Int)) 7168 ∧ zGo Γ 232 Q 23 [some (zo 10 0 0), some (zi (iz (j : Int))), some (zi (iz (s : Int))), some (zi (iz (a : Int) + 1)), none, none] [] (zw M4 10 0 36 (1024 * iz (j : Int) + 8 * iz (s : Int) + iz (a : Int)).toNatClampNeg (iz (mv S true (S 0).toNat (bw S) ((S 0).toNat - j) s a))) := by
            intro hok
            rw [be_ix, iz_clN (by omega), iz_s]
            refine ⟨iz_inN (by omega) (by omega), ih4 _ ⟨o4.w _ ⟨rfl, rfl, rfl⟩, fun j' s' a' h0 h1 h2 h3 => ?_⟩⟩
            by_cases e : j' = j ∧ s' = s ∧ a' = a
            · obtain ⟨rfl, rfl, rfl⟩ := e
              rw [zw_eq]
            · rw [zw_ne (by omega)]
              exact c4 j' s' a' (by omega) h1 h2 h3
          have go : a = 7 ∨ a < (S 1).toNat → ((¬ iz (j : Int) = M4.1 10 0 0 13 → zEv Γ 231 [zo 10 0 0, zi (iz (j : Int)), zi (iz (s : Int)), zi (iz (a : Int)), zi 7] M4 (fun o M1 => ∃ r1, o = some (zi r1) ∧ zGo Γ 232 Q 72 [some (zo 10 0 0), some (zi (iz (j : Int))), some (zi (iz (s : Int))), some (zi (iz (a : Int))), some (zi r1), some (zi 0)] [] M1)) ∧ (iz (j : Int) = M4.1 10 0 0 13 → zGo Γ 232 Q 72 [some (zo 10 0 0), some (zi (iz (j : Int))), some (zi (iz (s : Int))), some (zi (iz (a : Int))), some (zi 0), some (zi 0)] [] M4)) := by
            intro hok
            have wr := wr hok
            rw [f13, iz_eq (by omega) (by omega) (by omega) (by omega)]
            refine ⟨fun q => r_step7 hS (by omega) hs cj ⟨_, rfl, ?_⟩, fun q => ?_⟩
            · have hz := mv_b hS hw (B := true) ((S 0).toNat - (j + 1)) (by omega) s 7 (by omega)
              refine nloop (G := fun i => zGo Γ 232 Q 72 [some (zo 10 0 0), some (zi (iz (j : Int))), some (zi (iz (s : Int))), some (zi (iz (a : Int))), some (zi (iz (mxI (cnd S true (S 0).toNat (bw S) j s a) (may S s a) (mv S true (S 0).toNat (bw S) ((S 0).toNat - (j + 1)) s 7) i))), some (zi (iz (i : Int)))] [] M4) (n := (S 1).toNat) ?_ (fun i hi ihi => ?_) (S 1).toNat 0 (by omega)
              · refine bk_232_72 ⟨fun _ => ?_, fun q2 => ?_⟩
                · rw [← mv_s (show j < (S 0).toNat by omega)]
                  exact wr
                · rw [f14, iz_le (by omega) (by omega) (by omega) (by omega)] at q2
                  omega
              · have hcb : ∀ i, i < (S 1).toNat → cnd S true (S 0).toNat (bw S) j s a i ≤ 100000 := fun i hi => (cnd_b hS hw (by omega) (by omega) (by omega) (by omega)).2
                have hmb := mxI_b (ok := may S s a) (f := cnd S true (S 0).toNat (bw S) j s a) (K := 100000) hz.1 (by omega) i (fun k hk => hcb k (by omega))
                have hcb1 := cnd_b (s := s) (B := true) (w := bw S) hS hw (show (S 0).toNat ≤ 7 by omega) (show j < (S 0).toNat by omega) (show a ≤ 7 by omega) (show i < 7 by omega)
                rw [mxI] at ihi
                refine bk_232_72 ⟨fun q2 => ?_, fun _ => ⟨fun q2 => ?_, fun _ => r_step hS B4 t4 (by omega) hs (by omega) hi cj ⟨_, rfl, ?_⟩⟩⟩
                · rw [f14, iz_le (by omega) (by omega) (by omega) (by omega)] at q2
                  omega
                · rw [f13, iz_le (by omega) (by omega) (by omega) (by omega)] at q2
                  omega
                · refine r_greater (by omega) (by split <;> omega) ⟨_, rfl, ?_⟩
                  rw [iz_s]
                  by_cases hm : may S s a i = true
                  · rw [if_pos hm] at ihi
                    rw [if_pos hm]
                    exact ihi
                  · rw [if_neg hm] at ihi
                    rw [if_neg hm, Int.max_eq_left (by omega)]
                    exact ihi
            · have ez : mv S true (S 0).toNat (bw S) ((S 0).toNat - j) s a = 0 := by
                rw [show (S 0).toNat - j = 0 by omega]
                rfl
              rw [ez] at wr
              exact bk_232_72 ⟨fun _ => wr, fun _ => ⟨fun _ => wr, fun q2 => by
                rw [f13, iz_le (by omega) (by omega) (by omega) (by omega)] at q2
                omega⟩⟩
          refine bk_232_23 ⟨fun q => ?_, fun _ => ⟨fun q => go (Or.inl ?_), fun q => ⟨fun q2 => go (Or.inr ?_), fun q2 => ?_⟩⟩⟩
          · rw [show (8 : Int32) = iz 8 from rfl, iz_le (by omega) (by omega) (by omega) (by omega)] at q
            omega
          · rw [show (7 : Int32) = iz 7 from rfl, iz_le (by omega) (by omega) (by omega) (by omega)] at q
            omega
          · rw [f14, iz_lt (by omega) (by omega) (by omega) (by omega)] at q2
            omega
          · rw [show (7 : Int32) = iz 7 from rfl, iz_le (by omega) (by omega) (by omega) (by omega)] at q
            rw [f14, iz_lt (by omega) (by omega) (by omega) (by omega)] at q2
            rw [iz_s]
            exact ih4 M4 ⟨o4, fun j' s' a' h0 h1 h2 h3 => c4 j' s' a' (by omega) h1 h2 h3⟩
  have := lp ((S 0).toNat + 1) 0 M (by omega) ⟨Off.rf M, fun j s a h0 h1 => by omega⟩
  rw [show ((S 0).toNat : Int) - ((0 : Nat) : Int) = ((S 0).toNat : Int) by omega] at this
  exact this
theorem r_besideAt {p : Nat} (hS : SOK S) (hB : rB M b S) (ht : M.1 10 0 0 21 = iz (-1)) (hc : rBc M S (fun _ _ _ => True)) (hp0 : p < (S 0).toNat) (h : Q (some (zi (iz (opI (rwA S true (worS S) p))))) M) : zEv Γ 233 [zo 10 0 0, zi (iz (p : Int))] M Q := by
  have h6 := hS.1
  have h7 := hS.2.1
  have hp := bit_p (S 1).toNat (by omega)
  have hw := bw_b hS
  have f13 : M.1 10 0 0 13 = iz ((S 0).toNat : Int) := by rw [hB.2.1]; exact congrArg iz (by omega)
  have f14 : M.1 10 0 0 14 = iz ((S 1).toNat : Int) := by rw [hB.2.2.1]; exact congrArg iz (by omega)
  refine en_233 (bk_233_0 ?_)
  refine nloop (G := fun j => j ≤ p → zGo Γ 233 Q 8 [some (zo 10 0 0), some (zi (iz (p : Int))), some (zi (iz (((stt S true (S 0).toNat (bw S) j).1 : Nat) : Int))), some (zi (iz (((stt S true (S 0).toNat (bw S) j).2 : Nat) : Int))), some (zi (iz (j : Int))), none, none] [] M) (n := p + 1) (fun z => by omega) (fun j hj ih _ => ?_) (p + 1) 0 (by omega) (by omega)
  obtain ⟨s1, s2, s3⟩ := stt_ok hS (B := true) (R := (S 0).toNat) (w := bw S) j
  have ha : (stt S true (S 0).toNat (bw S) j).2 ≤ 7 := by rcases s3 with e | ⟨_, e, _⟩ <;> omega
  have hok : (stt S true (S 0).toNat (bw S) j).2 = 7 ∨ (stt S true (S 0).toNat (bw S) j).2 < (S 1).toNat := by rcases s3 with e | ⟨_, e, _⟩ <;> omega
  have hrow : rwA S true (worS S) j = ch S true (S 0).toNat (bw S) j (stt S true (S 0).toNat (bw S) j).1 (stt S true (S 0).toNat (bw S) j).2 := rfl
  rw [stt, ← hrow] at ih
  refine bk_233_8 ⟨fun q => ?_, fun _ => ?_⟩
  · rw [f13, iz_le (by omega) (by omega) (by omega) (by omega)] at q
    omega
  generalize (stt S true (S 0).toNat (bw S) j).1 = s at *
  generalize (stt S true (S 0).toNat (bw S) j).2 = a at *
  have hmb := mv_b hS hw (B := true) ((S 0).toNat - j) (by omega) s a ha
  refine nloop (G := fun i => fnd (fun i => may S s a i && decide (cnd S true (S 0).toNat (bw S) j s a i = mv S true (S 0).toNat (bw S) ((S 0).toNat - j) s a)) i ((S 1).toNat - i) = rwA S true (worS S) j → zGo Γ 233 Q 20 [some (zo 10 0 0), some (zi (iz (p : Int))), some (zi (iz (s : Int))), some (zi (iz (a : Int))), some (zi (iz (j : Int))), some (zi (iz (i : Int))), none] [] M) (n := (S 1).toNat) (fun e => ?_) (fun i hi ihi e => ?_) (S 1).toNat 0 (by omega) hrow.symm
  · rw [Nat.sub_self] at e
    have e : none = rwA S true (worS S) j := e
    rw [← e] at ih
    refine bk_233_20 ⟨fun _ => ⟨fun q => absurd f14.symm q, fun _ => ⟨fun q => ⟨fun _ => ?_, fun q2 => absurd (by decide) q2⟩, fun q => ⟨fun q2 => absurd rfl q2, fun _ => ?_⟩⟩⟩, fun q => ?_⟩
    · rw [iz_eq (by omega) (by omega) (by omega) (by omega)] at q
      rw [iz_s]
      exact ih (by omega)
    · rw [iz_eq (by omega) (by omega) (by omega) (by omega)] at q
      have ejp : j = p := by omega
      subst ejp
      rw [← e] at h
      exact h
    · rw [f14, iz_le (by omega) (by omega) (by omega) (by omega)] at q
      omega
  · rw [show (S 1).toNat - i = ((S 1).toNat - (i + 1)) + 1 by omega, fnd_s i] at e
    have hb := bit_or s (by omega) i (by omega)
    refine bk_233_20 ⟨fun q => ?_, fun _ => r_step hS hB ht (by omega) s1 ha hi (fun j' s' a' _ h1 h2 h3 => hc j' s' a' trivial h1 h2 h3) ⟨_, rfl, ?_⟩⟩
    · rw [f14, iz_le (by omega) (by omega) (by omega) (by omega)] at q
      omega
    have hcb1 := cnd_b (s := s) (B := true) (w := bw S) hS hw (show (S 0).toNat ≤ 7 by omega) (show j < (S 0).toNat by omega) ha (show i < 7 by omega)
    rw [be_ix, iz_clN (by omega), hc j s a trivial (by omega) s1 hok]
    refine ⟨iz_inN (by omega) (by omega), ?_⟩
    have key : (iz (if may S s a i = true then cnd S true (S 0).toNat (bw S) j s a i else -1000000) = iz (mv S true (S 0).toNat (bw S) ((S 0).toNat - j) s a)) = ((may S s a i && decide (cnd S true (S 0).toNat (bw S) j s a i = mv S true (S 0).toNat (bw S) ((S 0).toNat - j) s a)) = true) := by
      rw [iz_eq (by split <;> omega) (by split <;> omega) (by omega) (by omega)]
      by_cases hm : may S s a i = true
      · rw [if_pos hm, hm]
        simp
      · rw [if_neg hm]
        simp [hm]
        omega
    rw [key]
    refine ⟨fun q => ⟨fun _ => ⟨fun q2 => ⟨fun q3 => ?_, fun _ => ?_⟩, fun q2 => ⟨fun _ => ?_, fun q3 => ?_⟩⟩, fun q2 => ?_⟩, fun q => ?_⟩
    · rw [show (7 : Int32) = iz 7 from rfl, iz_le (by omega) (by omega) (by omega) (by omega)] at q3
      omega
    · rw [iz_eq (by omega) (by omega) (by omega) (by omega)] at q2
      rw [if_pos q] at e
      rw [← e] at ih
      rw [hb.1, iz_s]
      exact ih (by omega)
    · rw [iz_eq (by omega) (by omega) (by omega) (by omega)] at q2
      have ejp : j = p := by omega
      subst ejp
      rw [if_pos q] at e
      rw [← e] at h
      exact h
    · rw [show (7 : Int32) = iz 7 from rfl, iz_eq (by omega) (by omega) (by omega) (by omega)] at q3
      omega
    · rw [f14, iz_eq (by omega) (by omega) (by omega) (by omega)] at q2
      omega
    · rw [if_neg q] at e
      rw [iz_s]
      exact ihi e
theorem r_beside {x y : Int32} (hW : rW M cnt SS) (ht0 : M.1 10 0 0 21 = iz (-1)) (h : ∀ M', Kp M M' → Q (some (zi (iz (fS cnt SS x (fun S => gBeside S y) (-100000))))) M') : zEv Γ 234 [zo 10 0 0, zi x, zi y] M Q := by
  refine en_234 (bk_234_0 (r_isSale hW (fun q => ⟨_, rfl, fun q' => absurd rfl q', fun _ => ?_⟩) (fun s M1 hs hx o1 hB => ⟨_, rfl, fun _ => ?_, fun q' => absurd q' (by decide)⟩)))
  · have := h M (Kp.rf M)
    rw [fS_out q] at this
    exact this
  · have hS := (hW.2.2 s hs).2
    have h7 := hS.2.1
    have h6 := hS.1
    have hp1 : 0 < 2 ^ (SS s 1).toNat := Nat.two_pow_pos _
    have o1 : Off rSc M M1 := o1.wk fun _ _ _ _ => rSl_sc
    have ht1 : M1.1 10 0 0 21 = iz (-1) := (o1.1 _ _ _ _ (by unfold rSc; omega)).trans ht0
    obtain ⟨w, hw1, hw2, rfl⟩ := iz_ex y
    rw [fS_in hs hW.2.1 hx] at h
    unfold gBeside at h
    rw [iz_toInt (by omega) (by omega)] at h
    have q0 : (iz w = 0) = (w = 0) := by rw [iz0, iz_eq (by omega) (by omega) (by omega) (by omega)]
    rw [hB.2.1, show (9 : Int32) = iz 9 from rfl, iz_add, show (10 : Int32) = iz 10 from rfl, iz_sub, q0]
    have c7 : ∀ {M3 : zM}, rBc M3 (SS s) (fun _ _ _ => True) → M3.1 10 0 36 ((7 : Int32).toNatClampNeg) = iz (mvA (SS s) true (worS (SS s))) := fun {M3} c3 => by
      have := c3 0 0 7 trivial (by omega) hp1 (Or.inl rfl)
      rw [Nat.sub_zero] at this
      exact this
    refine r_isIn (by omega) (by omega) (by omega) (fun q1 q2 => ⟨_, rfl, fun z => by omega, fun z => ⟨fun _ => r_besideNow hS hB ht1 (fun M3 o3 c3 => ⟨rfl, fun z => absurd z (by decide), fun _ => ?_⟩), fun z => absurd z (by decide)⟩⟩) (fun q => ⟨_, rfl, fun z => r_besideNow hS hB ht1 (fun M3 o3 c3 => ⟨rfl, fun _ => ⟨fun z2 => absurd z z2, fun _ => ⟨by unfold vp_in; decide, ?_⟩⟩, fun z => absurd rfl z⟩), fun z => ⟨fun z2 => absurd rfl z2, fun _ => ?_⟩⟩)
    · rw [show w - 10 = (((w - 10).toNat : Nat) : Int) by omega]
      have t3 : M3.1 10 0 0 21 = iz (-1) := (o3.1 _ _ _ _ (by unfold oBe; omega)).trans ht1
      refine r_besideAt hS (hB.be o3) t3 c3 (by omega) ⟨_, rfl, fun _ => ?_, fun z2 => absurd z2 z⟩
      have h2 := h M3 (Kp.ofR (o1.tr (o3.wk fun _ _ _ _ => oBe_sc)))
      rw [if_neg z, if_pos (by omega)] at h2
      have hrb := row_b hS (B := true) (W := worS (SS s)) (w - 10).toNat
      cases hr : rwA (SS s) true (worS (SS s)) (w - 10).toNat with
      | none =>
        rw [hr] at h2
        exact ⟨fun z2 => absurd z2 (by decide), fun _ => h2⟩
      | some i =>
        rw [hr] at h2 hrb
        refine ⟨fun _ => h2, fun z2 => ?_⟩
        have z2 : ¬ iz 0 ≤ iz (i : Int) := z2
        simp only [opI] at hrb
        rw [iz_le (by omega) (by omega) (by omega) (by omega)] at z2
        omega
    · have h2 := h M3 (Kp.ofR (o1.tr (o3.wk fun _ _ _ _ => oBe_sc)))
      rw [if_pos z] at h2
      rw [c7 c3]
      exact h2
    · have h2 := h M1 (Kp.ofR o1)
      rw [if_neg z, if_neg (by omega)] at h2
      exact h2
end Z63
