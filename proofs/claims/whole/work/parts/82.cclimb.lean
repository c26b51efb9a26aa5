/-! climb, climbs: the class -/
def oCb (c t _f _i : Nat) : Prop := c = 1 ∧ t = 0
theorem Kp.ofB1 {M M' : zM} (h : Off oCb M M') : Kp M M' := ⟨fun c t f i hp => h.1 _ _ _ _ (by unfold Pst at hp; unfold oCb; omega), fun hI t ht => (hI t ht).off h (by unfold oCb; intro f i; omega)⟩
section Z82
variable {Γ : zC} {Q : zQ} {M : zM} {ts cnt : Nat} {S : SB} {SS : Nat → SB} {pr : Nat → Int}
theorem c_wantedBy {i : Nat} (hS : SOK S) (hC : cS M ts S) (hp : ∀ j, j < 6 → M.1 1 0 1 j = iz (pr j)) (hpr : ∀ j, j < 6 → 0 ≤ pr j ∧ pr j ≤ 1000) (hi : i < 7) (h : Q (some (zi (iz ((wB S pr i : Nat) : Int)))) M) : zEv Γ 15 [zo 1 0 0, zo 7 ts 0, zi (iz (i : Int))] M Q := by
  have h6 := hS.1
  refine en_15 (bk_15_0 ?_)
  refine nloop (G := fun j => zGo Γ 15 Q 8 [some (zo 1 0 0), some (zo 7 ts 0), some (zi (iz (i : Int))), some (zi (iz (wnt S pr i j).1)), some (zi (iz (((wnt S pr i j).2 : Nat) : Int))), some (zi (iz (j : Int))), none] [] M) (n := (S 0).toNat) ?_ (fun j hj ih => ?_) (S 0).toNat 0 (by omega)
  · refine bk_15_8 ⟨fun _ => h, fun q => ?_⟩
    rw [hC.1 0 (by omega), iz_le (by omega) (by omega) (by omega) (by omega)] at q
    omega
  · have wb := wnt_b hS hpr hi j (by omega)
    have hpw : 2 ^ j ≤ 2 ^ 6 := Nat.pow_le_pow_right (by omega) (by omega)
    have h64 : 2 ^ 6 = 64 := by decide
    have h1 := worS_b hS hi (show j < 6 by omega)
    have h2 := hpr j (by omega)
    have ew : wor S (S (10 + i)) i j = worS S i j := rfl
    rw [wnt] at ih
    have hb := bit_or (wnt S pr i j).2 (by omega) j (by omega)
    have hb0 := bit_or 0 (by omega) j (by omega)
    rw [Nat.zero_or] at hb0
    refine bk_15_8 ⟨fun q => ?_, fun _ => c_worthTo hS hC hi (by omega) ⟨_, rfl, iz_inN (by omega) (by omega), ?_⟩⟩
    · rw [hC.1 0 (by omega), iz_le (by omega) (by omega) (by omega) (by omega)] at q
      omega
    rw [iz_clN (by omega), hp j (by omega), ew, iz_sub, iz_s, hb.1, show ((0 : Int32) ||| ((1 : Int32) <<< (iz (j : Int) &&& 31))) = iz ((2 ^ j : Nat) : Int) from hb0.1, iz_le (by omega) (by omega) (by omega) (by omega), show (iz (worS S i j - pr j) ≤ 0) = (worS S i j - pr j ≤ 0) by rw [iz0, iz_le (by omega) (by omega) (by omega) (by omega)], iz_eq (by omega) (by omega) (by omega) (by omega)]
    refine ⟨fun q1 => ⟨fun q2 => ?_, fun q2 => ⟨fun q3 => ?_, fun q3 => ?_⟩⟩, fun q1 => ⟨fun q2 => ?_, fun q2 => ⟨fun q3 => absurd rfl q3, fun _ => ?_⟩⟩⟩
    · rw [if_neg (by omega), if_neg (by omega)] at ih
      exact ih
    · rw [if_neg (by omega), if_neg (by omega)] at ih
      exact ih
    · rw [if_neg (by omega), if_pos (by omega)] at ih
      exact ih
    · omega
    · rw [if_pos (by omega)] at ih
      exact ih
theorem c_countCrowd {st : Nat} (hS : SOK S) (hC : cS M ts S) (hw : ∀ i, i < (S 1).toNat → M.1 1 0 2 i = iz ((wB S pr i : Nat) : Int)) (h : Q (some (zi (iz ((crd S pr st (S 1).toNat : Nat) : Int)))) M) : zEv Γ 16 [zo 1 0 0, zo 7 ts 0, zi (iz (st : Int))] M Q := by
  have h7 := hS.2.1
  refine en_16 (bk_16_0 ?_)
  refine nloop (G := fun i => zGo Γ 16 Q 5 [some (zo 1 0 0), some (zo 7 ts 0), some (zi (iz (st : Int))), some (zi (iz ((crd S pr st i : Nat) : Int))), some (zi (iz (i : Int)))] [] M) (n := (S 1).toNat) ?_ (fun i hi ih => ?_) (S 1).toNat 0 (by omega)
  · refine bk_16_5 ⟨fun _ => h, fun q => ?_⟩
    rw [hC.1 1 (by omega), iz_le (by omega) (by omega) (by omega) (by omega)] at q
    omega
  · have v7 := iz_inN (i := i) (n := 7) (by omega) (by omega)
    rw [crd] at ih
    refine bk_16_5 ⟨fun q => ?_, fun _ => ⟨v7, ?_⟩⟩
    · rw [hC.1 1 (by omega), iz_le (by omega) (by omega) (by omega) (by omega)] at q
      omega
    rw [iz_clN (by omega), hw i hi, iz_s, iz_s]
    refine ⟨fun q => ?_, fun q => ⟨v7, fun q2 => ?_, fun q2 => ?_⟩⟩
    · rw [if_neg (fun z => z.1 q)] at ih
      exact ih
    · rw [if_neg (fun z => q2 z.2)] at ih
      exact ih
    · rw [if_pos ⟨q, q2⟩] at ih
      exact ih
theorem c_crowdedSet (hst : zSt Γ) (hS : SOK S) (hC : cS M ts S) (hp : ∀ j, j < 6 → M.1 1 0 1 j = iz (pr j)) (hpr : ∀ j, j < 6 → 0 ≤ pr j ∧ pr j ≤ 1000) (h : ∀ M', Off (fun c t f _ => c = 1 ∧ t = 0 ∧ f = 2) M M' → Q (some (zi (iz ((cs S pr : Nat) : Int)))) M') : zEv Γ 14 [zo 1 0 0, zo 7 ts 0] M Q := by
  have h7 := hS.2.1
  have h6 := hS.1
  have hpw : 2 ^ (S 0).toNat ≤ 2 ^ 6 := Nat.pow_le_pow_right (by omega) (by omega)
  have hp1 : 0 < 2 ^ (S 0).toNat := Nat.two_pow_pos _
  have h64 : 2 ^ 6 = 64 := by decide
  have fd := cs_find (P := crP S pr) (B := 2 ^ (S 0).toNat) (by omega)
  refine en_14 (bk_14_0 ?_)
  refine zloop (P := fun i M2 => Off (fun c t f _ => c = 1 ∧ t = 0 ∧ f = 2) M M2 ∧ ∀ k, k < i → M2.1 1 0 2 k = iz ((wB S pr k : Nat) : Int)) (G := fun i M2 => zGo Γ 14 Q 2 [some (zo 1 0 0), some (zo 7 ts 0), some (zi (iz (i : Int))), none] [] M2) (n := (S 1).toNat) ?_ ?_ (S 1).toNat 0 M (by omega) ⟨Off.rf M, fun k hk => by omega⟩
  · rintro M2 ⟨o2, w2⟩
    have C2 := hC.off o2 (by intro f i; omega)
    have h := h M2 o2
    refine bk_14_2 ⟨fun _ => ?_, fun q => ?_⟩
    · refine nloop (G := fun k => fnd (fun k => decide (sets.getD k 0 < 2 ^ (S 0).toNat) && crP S pr (sets.getD k 0)) 0 63 = fnd (fun k => decide (sets.getD k 0 < 2 ^ (S 0).toNat) && crP S pr (sets.getD k 0)) k (63 - k) → zGo Γ 14 Q 30 [some (zo 1 0 0), some (zo 7 ts 0), some (zi (iz (k : Int))), none] [] M2) (n := 63) (fun e => ?_) (fun k hk ih e => ?_) 63 0 (by omega) rfl
      · rw [Nat.sub_self] at e
        rw [e] at fd
        refine bk_14_30 (sp_14_31 hst (bk_14_35 ⟨fun _ => ?_, fun q => absurd (by decide) q⟩))
        have e0 : cs S pr = 0 := fd.symm
        rw [e0] at h
        exact h
      · have hsl := sets_lt k hk
        rw [show 63 - k = (63 - (k + 1)) + 1 by omega, fnd_s k] at e
        refine bk_14_30 (sp_14_31 hst (bk_14_35 ⟨fun q => ?_, fun _ => sp_14_38 hst rfl (iz_inN hk (by omega)) ?_⟩))
        · rw [show (63 : Int32) = iz 63 from rfl, iz_le (by omega) (by omega) (by omega) (by omega)] at q
          omega
        rw [iz_clN (by omega)]
        have e13 : M2.1 7 ts 0 0 = iz ((S 0).toNat : Int) := by rw [C2.1 0 (by omega)]; exact congrArg iz (by omega)
        have hcl := crd_le (S := S) (pr := pr) (st := sets.getD k 0) (S 1).toNat
        have hpc : pc (sets.getD k 0) ≤ 7 := by unfold pc; omega
        refine bk_14_43 ?_
        rw [e13, bit_sh _ (by omega), iz_le (by omega) (by omega) (by omega) (by omega), iz_s]
        refine ⟨fun q => ih ?_, fun q => c_countCrowd hS C2 w2 ⟨_, rfl, c_bitCount (by omega) ⟨_, rfl, ?_⟩⟩⟩
        · rw [if_neg (by rw [decide_eq_false (by omega)]; simp)] at e
          exact e
        · rw [iz_le (by omega) (by omega) (by omega) (by omega)]
          refine ⟨fun q2 => ih ?_, fun q2 => ?_⟩
          · rw [if_neg (by
              rw [Bool.and_eq_true]
              rintro ⟨_, z⟩
              unfold crP at z
              rw [decide_eq_true_iff] at z
              omega)] at e
            exact e
          · rw [if_pos (by
              rw [Bool.and_eq_true]
              unfold crP
              rw [decide_eq_true_iff, decide_eq_true_iff]
              omega)] at e
            rw [e] at fd
            have e0 : cs S pr = sets.getD k 0 := fd.symm
            rw [e0] at h
            exact h
    · rw [C2.1 1 (by omega), iz_le (by omega) (by omega) (by omega) (by omega)] at q
      omega
  · rintro i M2 hi ⟨o2, w2⟩ ih
    have C2 := hC.off o2 (by intro f i; omega)
    refine bk_14_2 ⟨fun q => ?_, fun _ => c_wantedBy hS C2 (fun j hj => (o2.1 _ _ _ _ (by omega)).trans (hp j hj)) hpr (by omega) ⟨_, rfl, iz_inN (by omega) (by omega), ?_⟩⟩
    · rw [C2.1 1 (by omega), iz_le (by omega) (by omega) (by omega) (by omega)] at q
      omega
    · rw [iz_clN (by omega), iz_s]
      refine ih _ ⟨o2.w _ ⟨rfl, rfl, rfl⟩, fun k hk => ?_⟩
      by_cases e : k = i
      · rw [e, zw_eq]
      · rw [zw_ne (by omega)]
        exact w2 k (by omega)
theorem c_raisePrices {st : Nat} (hst : st < 64) (hp : ∀ j, j < 6 → M.1 1 0 1 j = iz (pr j)) (h : ∀ M', Off oCb M M' → (∀ j, j < 6 → M'.1 1 0 1 j = iz (pr j + bitN st j)) → Q none M') : zEv Γ 13 [zo 1 0 0, zi (iz (st : Int))] M Q := by
  refine en_13 (bk_13_0 ?_)
  refine zloop (P := fun j M2 => Off oCb M M2 ∧ ∀ k, k < 6 → M2.1 1 0 1 k = iz (if k < j then pr k + bitN st k else pr k)) (G := fun j M2 => zGo Γ 13 Q 2 [some (zo 1 0 0), some (zi (iz (st : Int))), some (zi (iz (j : Int)))] [] M2) (n := 6) ?_ ?_ 6 0 M (by omega) ⟨Off.rf M, fun k hk => by rw [if_neg (by omega)]; exact hp k hk⟩
  · rintro M2 ⟨o2, p2⟩
    refine bk_13_2 ⟨fun _ => h M2 o2 (fun k hk => ?_), fun q => absurd (by decide) q⟩
    rw [p2 k hk, if_pos hk]
  · rintro j M2 hj ⟨o2, p2⟩ ih
    have v6 := iz_inN (i := j) (n := 6) (by omega) (by omega)
    refine bk_13_2 ⟨fun q => ?_, fun _ => ⟨v6, v6, ?_⟩⟩
    · rw [show (6 : Int32) = iz 6 from rfl, iz_le (by omega) (by omega) (by omega) (by omega)] at q
      omega
    · rw [bit_get st (by omega) j (by omega), iz_clN (by omega), p2 j hj, if_neg (by omega), iz_add, iz_s]
      refine ih _ ⟨o2.w _ ⟨rfl, rfl⟩, fun k hk => ?_⟩
      by_cases e : k = j
      · rw [e, zw_eq, if_pos (show j < j + 1 by omega)]
        rfl
      · rw [zw_ne (by omega), p2 k hk]
        by_cases z : k < j
        · rw [if_pos z, if_pos (by omega)]
        · rw [if_neg z, if_neg (by omega)]
theorem c_climbFor {m : Nat} (hst : zSt Γ) (hS : SOK S) (hC : cS M ts S) (hm : m ≤ 1000) (h : ∀ M', Off oCb M M' → (∀ j, j < 6 → M'.1 1 0 1 j = iz (prR S m j)) → Q (some (zi (iz ((rn S m : Nat) : Int)))) M') : zEv Γ 12 [zo 1 0 0, zo 7 ts 0, zi (iz (m : Int))] M Q := by
  refine en_12 (bk_12_0 ?_)
  refine zloop (P := fun j M2 => Off oCb M M2 ∧ ∀ k, k < j → M2.1 1 0 1 k = iz 0) (G := fun j M2 => zGo Γ 12 Q 2 [some (zo 1 0 0), some (zo 7 ts 0), some (zi (iz (m : Int))), some (zi (iz (j : Int))), none, none] [] M2) (n := 6) ?_ ?_ 6 0 M (by omega) ⟨Off.rf M, fun k hk => by omega⟩
  · rintro M1 ⟨o1, p1⟩
    refine bk_12_2 ⟨fun _ => ?_, fun q => absurd (by decide) q⟩
    refine zloop (P := fun k M2 => Off oCb M M2 ∧ (∀ j, j < 6 → M2.1 1 0 1 j = iz (prR S k j)) ∧ ∀ j, j < k → ¬ cs S (prR S j) = 0) (G := fun k M2 => zGo Γ 12 Q 26 [some (zo 1 0 0), some (zo 7 ts 0), some (zi (iz (m : Int))), some (zi (iz (k : Int))), some (zi 0), none] [] M2) (n := m) ?_ ?_ m 0 M1 (by omega) ⟨o1, fun j hj => p1 j hj, fun j hj => by omega⟩
    · rintro M2 ⟨o2, p2, n2⟩
      refine bk_12_26 ⟨fun _ => ?_, fun q => ?_⟩
      · have := h M2 o2 p2
        rw [rn_go m n2] at this
        exact this
      · rw [iz_le (by omega) (by omega) (by omega) (by omega)] at q
        omega
    · rintro k M2 hk ⟨o2, p2, n2⟩ ih
      have C2 := hC.off o2 (by unfold oCb; intro f i; omega)
      have hcl := cs_lt hS (prR S k)
      refine bk_12_26 ⟨fun q => ?_, fun _ => ⟨fun q => absurd rfl q, fun _ => c_crowdedSet hst hS C2 p2 (fun j _ => by have := prR_b (S := S) k j; omega) (fun M3 o3 => ⟨_, rfl, fun q => ⟨fun q2 => absurd rfl q2, fun _ => ?_⟩, fun q => ⟨fun _ => ?_, fun q2 => absurd q2 (by decide)⟩⟩)⟩⟩
      · rw [iz_le (by omega) (by omega) (by omega) (by omega)] at q
        omega
      · rw [iz0, iz_eq (by omega) (by omega) (by omega) (by omega)] at q
        refine c_raisePrices hcl.2 (fun j hj => (o3.1 _ _ _ _ (by omega)).trans (p2 j hj)) (fun M4 o4 p4 => ⟨rfl, ?_⟩)
        rw [iz_s]
        refine ih M4 ⟨(o2.tr (o3.wk (by unfold oCb; intro c t f i; omega))).tr o4, p4, fun j hj => ?_⟩
        by_cases e : j = k
        · rw [e]
          omega
        · exact n2 j (by omega)
      · rw [iz0, iz_eq (by omega) (by omega) (by omega) (by omega)] at q
        have q : cs S (prR S k) = 0 := by omega
        have hk2 := h M3 (o2.tr (o3.wk (by unfold oCb; intro c t f i; omega))) (fun j hj => by
          have e := prR_st q (m - k)
          rw [show k + (m - k) = m by omega] at e
          rw [e]
          exact (o3.1 _ _ _ _ (by omega)).trans (p2 j hj))
        have e := rn_st q (m - k)
        rw [show k + (m - k) = m by omega, rn_go k n2] at e
        rw [e] at hk2
        exact bk_12_26 ⟨fun _ => hk2, fun _ => ⟨fun _ => hk2, fun z => absurd z (by decide)⟩⟩
  · rintro j M2 hj ⟨o2, p2⟩ ih
    refine bk_12_2 ⟨fun q => ?_, fun _ => ⟨iz_inN (by omega) (by omega), ?_⟩⟩
    · rw [show (6 : Int32) = iz 6 from rfl, iz_le (by omega) (by omega) (by omega) (by omega)] at q
      omega
    · rw [iz_clN (by omega), iz_s]
      refine ih _ ⟨o2.w _ ⟨rfl, rfl⟩, fun k hk => ?_⟩
      by_cases e : k = j
      · rw [e, zw_eq]
        rfl
      · rw [zw_ne (by omega)]
        exact p2 k (by omega)
theorem c_climb {x y w : Int32} (hst : zSt Γ) (hW : cW M cnt SS) (h : ∀ M', Kp M M' → Q (some (zi (iz (fS cnt SS x (fun S => gClimb S y w) (-1))))) M') : zEv Γ 144 [zo 9 0 0, zi x, zi y, zi w] M Q := by
  refine en_144 (bk_144_0 (c_saleAt hW (fun q => Or.inl ⟨rfl, ?_⟩) (fun s hs hx => Or.inr ⟨s, rfl, ?_⟩)))
  · have := h M (Kp.rf M)
    rw [fS_out q] at this
    exact this
  · obtain ⟨hC, hS⟩ := hW.2.2 s hs
    have h6 := hS.1
    rw [fS_in hs hW.2.1 hx] at h
    unfold gClimb at h
    obtain ⟨a, ha1, ha2, rfl⟩ := iz_ex y
    rw [iz_toInt ha1 ha2] at h
    have bad : ¬ ((0 ≤ a ∧ a ≤ 999) ∧ 0 ≤ w.toInt ∧ w.toInt < SS s 0) → Q (some (zi (-1))) M := fun q => by
      have h2 := h M (Kp.rf M)
      rw [if_neg q] at h2
      exact h2
    rw [show (iz a < 0) = (a < 0) by rw [iz0, iz_lt (by omega) (by omega) (by omega) (by omega)], show (999 < iz a) = (999 < a) by rw [show (999 : Int32) = iz 999 from rfl, iz_lt (by omega) (by omega) (by omega) (by omega)]]
    refine ⟨fun q => bad (by omega), fun q1 => ⟨fun q => bad (by omega), fun q2 => c_hasBoard hS hC (fun q => ⟨_, rfl, fun q' => absurd rfl q', fun _ => bad (by omega)⟩) (fun j hj hw => ⟨_, rfl, fun _ => ?_, fun q' => absurd q' (by decide)⟩)⟩⟩
    subst hw
    rw [iz_toInt (by omega) (by omega), if_pos (by omega)] at h
    obtain ⟨d, rfl⟩ : ∃ d : Nat, a = (d : Int) := ⟨a.toNat, by omega⟩
    refine c_climbFor hst hS hC (by omega) (fun M1 o1 p1 => ⟨_, rfl, iz_inN (by omega) (by omega), ?_⟩)
    rw [iz_clN (by omega), p1 j (by omega)]
    exact h M1 (Kp.ofB1 o1)
theorem c_climbs {x : Int32} (hst : zSt Γ) (hW : cW M cnt SS) (h : ∀ M', Kp M M' → Q (some (zi (iz (fS cnt SS x gClimbs (-1))))) M') : zEv Γ 145 [zo 9 0 0, zi x] M Q := by
  refine en_145 (bk_145_0 (c_saleAt hW (fun q => Or.inl ⟨rfl, ?_⟩) (fun s hs hx => Or.inr ⟨s, rfl, ?_⟩)))
  · have := h M (Kp.rf M)
    rw [fS_out q] at this
    exact this
  · obtain ⟨hC, hS⟩ := hW.2.2 s hs
    rw [fS_in hs hW.2.1 hx] at h
    unfold gClimbs at h
    refine c_climbFor (m := 1000) hst hS hC (by omega) (fun M1 o1 p1 => ⟨_, rfl, ?_⟩)
    have hr : rn (SS s) 1000 ≤ 1000 := by
      have : ∀ m, rn (SS s) m ≤ m := by
        intro m
        induction m with
        | zero => exact Nat.le_refl 0
        | succ m ih => rw [rn]; split <;> omega
      exact this 1000
    have h := h M1 (Kp.ofB1 o1)
    rw [show (999 : Int32) = iz 999 from rfl, iz_le (by omega) (by omega) (by omega) (by omega)]
    refine ⟨fun q => ?_, fun q => ?_⟩
    · rw [if_pos (by omega)] at h
      exact h
    · rw [if_neg (by omega)] at h
      exact h
end Z82
