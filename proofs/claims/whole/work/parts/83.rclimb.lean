/-! climb, climbs: the reference -/
def oCl (c t f _i : Nat) : Prop := c = 10 ∧ t = 0 ∧ (f = 39 ∨ f = 40)
theorem oCl_sc {c t f i : Nat} (h : oCl c t f i) : rSc c t f i := by
  unfold oCl at h
  unfold rSc
  omega
set_option maxRecDepth 100000 in
theorem bit_dn : ∀ v, v < 64 → ¬ v = 0 → iz ((v : Nat) : Int) &&& (iz ((v : Nat) : Int) - 1) = iz ((v &&& (v - 1) : Nat) : Int) ∧ v &&& (v - 1) < v ∧ pc (v &&& (v - 1)) + 1 = pc v := by decide
section Z83
variable {Γ : zC} {Q : zQ} {M : zM} {b cnt : Nat} {S : SB} {SS : Nat → SB} {pr : Nat → Int}
theorem rB.cl {M M' : zM} (h : rB M b S) (ho : Off oCl M M') : rB M' b S := h.off ho (by unfold oCl; intro i; omega) (by unfold oCl; omega) (by unfold oCl; omega) (by unfold oCl; omega)
theorem r_ones {v : Nat} (hv : v < 64) (h : Q (some (zi (iz ((pc v : Nat) : Int)))) M) : zEv Γ 246 [zi (iz (v : Int))] M Q := by
  refine en_246 (bk_246_0 ?_)
  have main : ∀ (v n : Nat), v < 64 → n + pc v = pc v → True := fun _ _ _ _ => trivial
  have lp : ∀ (w : Nat) (n : Nat), w < 64 → n + pc w = pc v → zGo Γ 246 Q 4 [none, some (zi (iz (n : Int))), some (zi (iz (w : Int)))] [] M := by
    intro w
    induction w using Nat.strongRecOn with
    | ind w ih =>
      intro n hw hn
      refine bk_246_4 ?_
      rw [show (iz (w : Int) = 0) = ((w : Int) = 0) by rw [iz0, iz_eq (by omega) (by omega) (by omega) (by omega)]]
      refine ⟨fun q => ?_, fun q => ?_⟩
      · have e : w = 0 := by omega
        subst e
        have : pc 0 = 0 := rfl
        rw [show n = pc v by omega]
        exact h
      · have hb := bit_dn w hw (by omega)
        rw [hb.1, iz_s]
        exact ih _ hb.2.1 _ (by omega) (by omega)
  exact lp v 0 hv (by omega)
theorem r_wishes (hS : SOK S) (hB : rB M b S) (ht : M.1 10 0 0 21 = iz (-1)) (hp : ∀ j, j < (S 0).toNat → M.1 10 0 39 j = iz (pr j)) (hpr : ∀ j, j < 6 → 0 ≤ pr j ∧ pr j ≤ 1000) (h : ∀ M', Off (fun c t f _ => c = 10 ∧ t = 0 ∧ f = 40) M M' → (∀ i, i < (S 1).toNat → M'.1 10 0 40 i = iz ((wB S pr i : Nat) : Int)) → Q none M') : zEv Γ 245 [zo 10 0 0] M Q := by
  have h7 := hS.2.1
  have h6 := hS.1
  have bb : ∀ {M2 : zM}, Off (fun c t f _ => c = 10 ∧ t = 0 ∧ f = 40) M M2 → rB M2 b S := fun o => hB.off o (by intro i; omega) (by omega) (by omega) (by omega)
  refine en_245 (bk_245_0 ?_)
  refine zloop (P := fun i M2 => Off (fun c t f _ => c = 10 ∧ t = 0 ∧ f = 40) M M2 ∧ ∀ k, k < i → M2.1 10 0 40 k = iz ((wB S pr k : Nat) : Int)) (G := fun i M2 => zGo Γ 245 Q 2 [some (zo 10 0 0), some (zi (iz (i : Int))), none, none, none] [] M2) (n := (S 1).toNat) ?_ ?_ (S 1).toNat 0 M (by omega) ⟨Off.rf M, fun k hk => by omega⟩
  · rintro M2 ⟨o2, w2⟩
    refine bk_245_2 ⟨fun _ => h M2 o2 w2, fun q => ?_⟩
    rw [(bb o2).2.2.1, iz_le (by omega) (by omega) (by omega) (by omega)] at q
    omega
  · rintro i M2 hi ⟨o2, w2⟩ ih
    have v7 := iz_inN (i := i) (n := 7) (by omega) (by omega)
    refine bk_245_2 ⟨fun q => ?_, fun _ => ⟨v7, ?_⟩⟩
    · rw [(bb o2).2.2.1, iz_le (by omega) (by omega) (by omega) (by omega)] at q
      omega
    rw [iz_clN (by omega)]
    refine zloop (P := fun j M3 => Off (fun c t f _ => c = 10 ∧ t = 0 ∧ f = 40) M M3 ∧ (∀ k, k < i → M3.1 10 0 40 k = iz ((wB S pr k : Nat) : Int)) ∧ M3.1 10 0 40 i = iz (((wnt S pr i j).2 : Nat) : Int)) (G := fun j M3 => zGo Γ 245 Q 21 [some (zo 10 0 0), some (zi (iz (i : Int))), some (zi (iz (wnt S pr i j).1)), some (zi (iz (j : Int))), none] [] M3) (n := (S 0).toNat) ?_ ?_ (S 0).toNat 0 _ (by omega) ⟨o2.w _ ⟨rfl, rfl, rfl⟩, fun k hk => (zw_ne (by omega)).trans (w2 k hk), zw_eq⟩
    · rintro M3 ⟨o3, w3, x3⟩
      refine bk_245_21 ⟨fun _ => ?_, fun q => ?_⟩
      · rw [iz_s]
        refine ih M3 ⟨o3, fun k hk => ?_⟩
        by_cases e : k = i
        · rw [e]
          exact x3
        · exact w3 k (by omega)
      · rw [(bb o3).2.1, iz_le (by omega) (by omega) (by omega) (by omega)] at q
        omega
    · rintro j M3 hj ⟨o3, w3, x3⟩ ih3
      have B3 := bb o3
      have t3 : M3.1 10 0 0 21 = iz (-1) := (o3.1 _ _ _ _ (by omega)).trans ht
      have wb := wnt_b hS hpr (i := i) (by omega) j (by omega)
      have hpw : 2 ^ j ≤ 2 ^ 6 := Nat.pow_le_pow_right (by omega) (by omega)
      have h64 : 2 ^ 6 = 64 := by decide
      have h1 := worS_b hS (i := i) (by omega) (show j < 6 by omega)
      have h2 := hpr j (by omega)
      have hb := bit_or (wnt S pr i j).2 (by omega) j (by omega)
      have hb0 := bit_or 0 (by omega) j (by omega)
      rw [Nat.zero_or] at hb0
      have nx : ∀ (M4 : zM) (v : Int × Nat), v = wnt S pr i (j + 1) → Off (fun c t f _ => c = 10 ∧ t = 0 ∧ f = 40) M M4 → (∀ k, k < i → M4.1 10 0 40 k = iz ((wB S pr k : Nat) : Int)) → M4.1 10 0 40 i = iz ((v.2 : Nat) : Int) → zGo Γ 245 Q 21 [some (zo 10 0 0), some (zi (iz (i : Int))), some (zi (iz v.1)), some (zi (iz ((j + 1 : Nat) : Int))), none] [] M4 := fun M4 v hv o4 w4 x4 => by
        subst hv
        exact ih3 M4 ⟨o4, w4, x4⟩
      have es : wnt S pr i (j + 1) = if (wnt S pr i j).1 < worS S i j - pr j then (worS S i j - pr j, 2 ^ j) else if worS S i j - pr j = (wnt S pr i j).1 ∧ 0 < worS S i j - pr j then ((wnt S pr i j).1, (wnt S pr i j).2 ||| 2 ^ j) else wnt S pr i j := rfl
      refine bk_245_21 ⟨fun q => ?_, fun _ => r_worS hS B3 t3 (by omega) (by omega) ⟨_, rfl, iz_inN (by omega) (by omega), ?_⟩⟩
      · rw [B3.2.1, iz_le (by omega) (by omega) (by omega) (by omega)] at q
        omega
      have e39 : M3.1 10 0 39 j = iz (pr j) := (o3.1 _ _ _ _ (by omega)).trans (hp j (by omega))
      have z1 : (zw M3 10 0 40 i (0 : Int32)).1 10 0 40 i = 0 := zw_eq
      rw [iz_clN (show j < 2147483648 by omega), iz_clN (show i < 2147483648 by omega), e39, iz_sub, iz_s, x3, hb.1, z1, show ((0 : Int32) ||| ((1 : Int32) <<< (iz (j : Int) &&& 31))) = iz ((2 ^ j : Nat) : Int) from hb0.1, iz_le (by omega) (by omega) (by omega) (by omega), show (iz (worS S i j - pr j) ≤ 0) = (worS S i j - pr j ≤ 0) by rw [iz0, iz_le (by omega) (by omega) (by omega) (by omega)], iz_eq (by omega) (by omega) (by omega) (by omega)]
      refine ⟨fun q1 => ⟨fun q2 => ?_, fun q2 => ⟨fun q3 => ?_, fun q3 => ⟨v7, v7, ?_⟩⟩⟩, fun q1 => ⟨v7, fun q2 => absurd rfl q2, fun _ => ⟨fun q3 => ?_, fun q3 => ⟨v7, v7, ?_⟩⟩⟩⟩
      · exact nx M3 (wnt S pr i j) (by rw [es, if_neg (by omega), if_neg (by omega)]) o3 w3 x3
      · exact nx M3 (wnt S pr i j) (by rw [es, if_neg (by omega), if_neg (by omega)]) o3 w3 x3
      · exact nx _ ((wnt S pr i j).1, (wnt S pr i j).2 ||| 2 ^ j) (by rw [es, if_neg (by omega), if_pos (by omega)]) (o3.w _ ⟨rfl, rfl, rfl⟩) (fun k hk => (zw_ne (by omega)).trans (w3 k hk)) zw_eq
      · omega
      · exact nx _ (worS S i j - pr j, 2 ^ j) (by rw [es, if_pos (by omega)]) ((o3.w _ ⟨rfl, rfl, rfl⟩).w _ ⟨rfl, rfl, rfl⟩) (fun k hk => ((zw_ne (by omega)).trans (zw_ne (by omega))).trans (w3 k hk)) zw_eq
theorem r_crowded (hS : SOK S) (hB : rB M b S) (hw : ∀ i, i < (S 1).toNat → M.1 10 0 40 i = iz ((wB S pr i : Nat) : Int)) (h : Q (some (zi (iz ((cs S pr : Nat) : Int)))) M) : zEv Γ 247 [zo 10 0 0] M Q := by
  have h7 := hS.2.1
  have h6 := hS.1
  have hpw : 2 ^ (S 0).toNat ≤ 2 ^ 6 := Nat.pow_le_pow_right (by omega) (by omega)
  have hp1 : 0 < 2 ^ (S 0).toNat := Nat.two_pow_pos _
  have h64 : 2 ^ 6 = 64 := by decide
  have e13 : M.1 10 0 0 13 = iz ((S 0).toNat : Int) := by rw [hB.2.1]; exact congrArg iz (by omega)
  refine en_247 (bk_247_0 ?_)
  refine nloop (G := fun m => zGo Γ 247 Q 4 [some (zo 10 0 0), some (zi (iz ((csR (crP S pr) m : Nat) : Int))), some (zi (iz ((m + 1 : Nat) : Int))), none, none] [] M) (n := 2 ^ (S 0).toNat - 1) ?_ (fun m hm ih => ?_) (2 ^ (S 0).toNat - 1) 0 (by omega)
  · refine bk_247_4 ⟨fun _ => h, fun q => ?_⟩
    rw [e13, bit_sh _ (by omega), iz_le (by omega) (by omega) (by omega) (by omega)] at q
    omega
  · have hcs : csR (crP S pr) m ≤ m := by
      rcases csR_ok (P := crP S pr) m (by omega) with ⟨h0, -⟩ | ⟨-, h1, -⟩ <;> omega
    have hp1' : pc (m + 1) ≤ 7 := by unfold pc; omega
    have hp2' : pc (csR (crP S pr) m) ≤ 7 := by unfold pc; omega
    refine bk_247_4 ⟨fun q => ?_, fun _ => ?_⟩
    · rw [e13, bit_sh _ (by omega), iz_le (by omega) (by omega) (by omega) (by omega)] at q
      omega
    refine nloop (G := fun i => zGo Γ 247 Q 19 [some (zo 10 0 0), some (zi (iz ((csR (crP S pr) m : Nat) : Int))), some (zi (iz ((m + 1 : Nat) : Int))), some (zi (iz ((crd S pr (m + 1) i : Nat) : Int))), some (zi (iz (i : Int)))] [] M) (n := (S 1).toNat) ?_ (fun i hi ihi => ?_) (S 1).toNat 0 (by omega)
    · have hcl := crd_le (S := S) (pr := pr) (st := m + 1) (S 1).toNat
      rw [csR] at ih
      refine bk_247_19 ⟨fun _ => r_ones (by omega) ⟨_, rfl, ?_⟩, fun q => ?_⟩
      · rw [iz_le (by omega) (by omega) (by omega) (by omega), iz_s]
        have hcP : crP S pr (m + 1) = true ↔ pc (m + 1) < crd S pr (m + 1) (S 1).toNat := by
          unfold crP
          rw [decide_eq_true_iff]
        refine ⟨fun q => ?_, fun q => ⟨fun q2 => ?_, fun q2 => r_ones (by omega) ⟨_, rfl, r_ones (by omega) ⟨_, rfl, ?_⟩⟩⟩⟩
        · rw [if_neg (fun z => absurd (hcP.mp z.1) (by omega))] at ih
          exact ih
        · rw [iz0, iz_eq (by omega) (by omega) (by omega) (by omega)] at q2
          rw [if_pos ⟨hcP.mpr (by omega), Or.inl (by omega)⟩] at ih
          exact ih
        · rw [iz0, iz_eq (by omega) (by omega) (by omega) (by omega)] at q2
          rw [iz_le (by omega) (by omega) (by omega) (by omega)]
          refine ⟨fun q3 => ?_, fun q3 => ?_⟩
          · rw [if_neg (fun z => by rcases z.2 with e | e <;> omega)] at ih
            exact ih
          · rw [if_pos ⟨hcP.mpr (by omega), Or.inr (by omega)⟩] at ih
            exact ih
      · rw [hB.2.2.1, iz_le (by omega) (by omega) (by omega) (by omega)] at q
        omega
    · have v7 := iz_inN (i := i) (n := 7) (by omega) (by omega)
      rw [crd] at ihi
      refine bk_247_19 ⟨fun q => ?_, fun _ => ⟨v7, ?_⟩⟩
      · rw [hB.2.2.1, iz_le (by omega) (by omega) (by omega) (by omega)] at q
        omega
      rw [iz_clN (by omega), hw i hi, iz_s (crd S pr (m + 1) i), iz_s i, iz0, iz_add, Int.add_zero]
      refine ⟨fun q => ?_, fun q => ⟨v7, fun q2 => ?_, fun q2 => ?_⟩⟩
      · rw [if_neg (fun z => z.1 q)] at ihi
        exact ihi
      · rw [if_neg (fun z => q2 z.2)] at ihi
        exact ihi
      · rw [if_pos ⟨q, q2⟩] at ihi
        exact ihi
theorem r_climbsBy {m : Nat} (hS : SOK S) (hB : rB M b S) (ht : M.1 10 0 0 21 = iz (-1)) (hm : m ≤ 999) (h : ∀ M', Off oCl M M' → (∀ j, j < (S 0).toNat → M'.1 10 0 39 j = iz (prR S m j)) → Q (some (zi (iz ((rn S (m + 1) : Nat) : Int)))) M') : zEv Γ 248 [zo 10 0 0, zi (iz (m : Int))] M Q := by
  have h6 := hS.1
  have e13 : ∀ {M2 : zM}, Off oCl M M2 → M2.1 10 0 0 13 = iz ((S 0).toNat : Int) := fun {M2} o2 => by
    rw [(hB.cl o2).2.1]
    exact congrArg iz (by omega)
  refine en_248 (bk_248_0 ?_)
  refine zloop (P := fun j M2 => Off oCl M M2 ∧ ∀ k, k < j → M2.1 10 0 39 k = iz 0) (G := fun j M2 => zGo Γ 248 Q 2 [some (zo 10 0 0), some (zi (iz (m : Int))), some (zi (iz (j : Int))), none, none] [] M2) (n := (S 0).toNat) ?_ ?_ (S 0).toNat 0 M (by omega) ⟨Off.rf M, fun k hk => by omega⟩
  · rintro M1 ⟨o1, p1⟩
    refine bk_248_2 ⟨fun _ => ?_, fun q => ?_⟩
    · refine zloop (P := fun k M2 => Off oCl M M2 ∧ (∀ j, j < (S 0).toNat → M2.1 10 0 39 j = iz (prR S (min k m) j)) ∧ ∀ j, j < k → ¬ cs S (prR S j) = 0) (G := fun k M2 => zGo Γ 248 Q 25 [some (zo 10 0 0), some (zi (iz (m : Int))), some (zi (iz (k : Int))), none, none] [] M2) (n := m + 1) ?_ ?_ (m + 1) 0 M1 (by omega) ⟨o1, fun j hj => by rw [Nat.zero_min]; exact p1 j hj, fun j hj => by omega⟩
      · rintro M2 ⟨o2, p2, n2⟩
        refine bk_248_25 ⟨fun _ => ?_, fun q => ?_⟩
        · have := h M2 o2 (fun j hj => by
            have := p2 j hj
            rw [show min (m + 1) m = m by omega] at this
            exact this)
          rw [rn_go (m + 1) n2] at this
          rw [iz_s]
          exact this
        · rw [iz_lt (by omega) (by omega) (by omega) (by omega)] at q
          omega
      · rintro k M2 hk ⟨o2, p2, n2⟩ ih
        have B2 := hB.cl o2
        have t2 : M2.1 10 0 0 21 = iz (-1) := (o2.1 _ _ _ _ (by unfold oCl; omega)).trans ht
        rw [show min k m = k by omega] at p2
        have hcl := cs_lt hS (prR S k)
        refine bk_248_25 ⟨fun q => ?_, fun _ => r_wishes hS B2 t2 p2 (fun j _ => by have := prR_b (S := S) k j; omega) (fun M3 o3 w3 => ⟨rfl, ?_⟩)⟩
        · rw [iz_lt (by omega) (by omega) (by omega) (by omega)] at q
          omega
        have o3' : Off oCl M M3 := o2.tr (o3.wk (by unfold oCl; intro c t f i; omega))
        have p3 : ∀ j, j < (S 0).toNat → M3.1 10 0 39 j = iz (prR S k j) := fun j hj => (o3.1 _ _ _ _ (by omega)).trans (p2 j hj)
        refine r_crowded hS (hB.cl o3') w3 ⟨_, rfl, fun q => ?_, fun q => ?_⟩
        · rw [iz0, iz_eq (by omega) (by omega) (by omega) (by omega)] at q
          have q : ¬ cs S (prR S k) = 0 := by omega
          have nn : ∀ j, j < k + 1 → ¬ cs S (prR S j) = 0 := fun j hj => by
            by_cases e : j = k
            · rw [e]
              exact q
            · exact n2 j (by omega)
          by_cases hkm : k = m
          · have fin : zGo Γ 248 Q 25 [some (zo 10 0 0), some (zi (iz (m : Int))), some (zi (iz (k : Int) + 1)), none, none] [] M3 := by
              rw [iz_s]
              exact ih M3 ⟨o3', fun j hj => by rw [show min (k + 1) m = k by omega]; exact p3 j hj, nn⟩
            refine bk_248_48 ⟨fun _ => fin, fun _ => ⟨fun _ => fin, fun q2 => ?_⟩⟩
            rw [iz_le (by omega) (by omega) (by omega) (by omega)] at q2
            omega
          · refine zloop (P := fun j M4 => Off oCl M M4 ∧ ∀ i, i < (S 0).toNat → M4.1 10 0 39 i = iz (if i < j then prR S (k + 1) i else prR S k i)) (G := fun j M4 => zGo Γ 248 Q 48 [some (zo 10 0 0), some (zi (iz (m : Int))), some (zi (iz (k : Int))), some (zi (iz ((cs S (prR S k) : Nat) : Int))), some (zi (iz (j : Int)))] [] M4) (n := (S 0).toNat) ?_ ?_ (S 0).toNat 0 M3 (by omega) ⟨o3', fun i hi => by rw [if_neg (by omega)]; exact p3 i hi⟩
            · rintro M4 ⟨o4, p4⟩
              refine bk_248_48 ⟨fun _ => ?_, fun q2 => ?_⟩
              · rw [iz_s]
                refine ih M4 ⟨o4, fun j hj => ?_, nn⟩
                rw [show min (k + 1) m = k + 1 by omega, p4 j hj, if_pos hj]
              · rw [e13 o4, iz_le (by omega) (by omega) (by omega) (by omega)] at q2
                omega
            · rintro j M4 hj ⟨o4, p4⟩ ih4
              have v6 := iz_inN (i := j) (n := 6) (by omega) (by omega)
              refine bk_248_48 ⟨fun q2 => ?_, fun _ => ⟨fun q2 => ?_, fun _ => ⟨v6, v6, ?_⟩⟩⟩
              · rw [e13 o4, iz_le (by omega) (by omega) (by omega) (by omega)] at q2
                omega
              · rw [iz_le (by omega) (by omega) (by omega) (by omega)] at q2
                omega
              · rw [bit_get _ (by omega) j (by omega), iz_clN (by omega), p4 j hj, if_neg (by omega), iz_add, iz_s]
                refine ih4 _ ⟨o4.w _ (by unfold oCl; omega), fun i hi => ?_⟩
                by_cases e : i = j
                · rw [e, zw_eq, if_pos (show j < j + 1 by omega)]
                  rfl
                · rw [zw_ne (by omega), p4 i hi]
                  by_cases z : i < j
                  · rw [if_pos z, if_pos (by omega)]
                  · rw [if_neg z, if_neg (by omega)]
        · rw [iz0, iz_eq (by omega) (by omega) (by omega) (by omega)] at q
          have q : cs S (prR S k) = 0 := by omega
          have hk2 := h M3 o3' (fun j hj => by
            have e := prR_st q (m - k)
            rw [show k + (m - k) = m by omega] at e
            rw [e]
            exact p3 j hj)
          have e := rn_st q (m + 1 - k)
          rw [show k + (m + 1 - k) = m + 1 by omega, rn_go k n2] at e
          rw [e] at hk2
          exact hk2
    · rw [e13 o1, iz_le (by omega) (by omega) (by omega) (by omega)] at q
      omega
  · rintro j M2 hj ⟨o2, p2⟩ ih
    refine bk_248_2 ⟨fun q => ?_, fun _ => ⟨iz_inN (by omega) (by omega), ?_⟩⟩
    · rw [e13 o2, iz_le (by omega) (by omega) (by omega) (by omega)] at q
      omega
    · rw [iz_clN (by omega), iz_s]
      refine ih _ ⟨o2.w _ (by unfold oCl; omega), fun k hk => ?_⟩
      by_cases e : k = j
      · rw [e, zw_eq]
        rfl
      · rw [zw_ne (by omega)]
        exact p2 k (by omega)
theorem r_climb {x y w : Int32} (hW : rW M cnt SS) (ht0 : M.1 10 0 0 21 = iz (-1)) (h : ∀ M', Kp M M' → Q (some (zi (iz (fS cnt SS x (fun S => gClimb S y w) (-1))))) M') : zEv Γ 249 [zo 10 0 0, zi x, zi y, zi w] M Q := by
  refine en_249 (bk_249_0 (r_isSale hW (fun q => ⟨_, rfl, fun _ => ?_, fun q' => absurd rfl q'⟩) (fun s M1 hs hx o1 hB => ⟨_, rfl, fun q' => absurd q' (by decide), fun _ => ?_⟩)))
  · have := h M (Kp.rf M)
    rw [fS_out q] at this
    exact this
  · have hS := (hW.2.2 s hs).2
    have h6 := hS.1
    have o1 : Off rSc M M1 := o1.wk fun _ _ _ _ => rSl_sc
    have ht1 : M1.1 10 0 0 21 = iz (-1) := (o1.1 _ _ _ _ (by unfold rSc; omega)).trans ht0
    rw [fS_in hs hW.2.1 hx] at h
    unfold gClimb at h
    obtain ⟨a, ha1, ha2, rfl⟩ := iz_ex y
    rw [iz_toInt ha1 ha2] at h
    have bad : ¬ ((0 ≤ a ∧ a ≤ 999) ∧ 0 ≤ w.toInt ∧ w.toInt < SS s 0) → Q (some (zi (-1))) M1 := fun q => by
      have h2 := h M1 (Kp.ofR o1)
      rw [if_neg q] at h2
      exact h2
    refine r_isIn (lo := 0) (hi := 999) (by omega) (by omega) (by omega) (fun q3 q4 => ⟨_, rfl, fun q' => absurd q' (by decide), fun _ => r_isBoard hS hB (fun q => ⟨_, rfl, fun q' => absurd rfl q', fun _ => bad (by omega)⟩) (fun j hj hw => ⟨_, rfl, fun _ => ?_, fun q' => absurd q' (by decide)⟩)⟩) (fun q3 => ⟨_, rfl, fun _ => bad (by omega), fun q' => absurd rfl q'⟩)
    subst hw
    rw [iz_toInt (by omega) (by omega), if_pos (by omega)] at h
    obtain ⟨d, rfl⟩ : ∃ d : Nat, a = (d : Int) := ⟨a.toNat, by omega⟩
    refine r_climbsBy hS hB ht1 (by omega) (fun M2 o2 p2 => ⟨_, rfl, iz_inN (by omega) (by omega), ?_⟩)
    rw [iz_clN (by omega), p2 j (by omega)]
    exact h M2 (Kp.ofR (o1.tr (o2.wk fun _ _ _ _ => oCl_sc)))
theorem r_climbs {x : Int32} (hW : rW M cnt SS) (ht0 : M.1 10 0 0 21 = iz (-1)) (h : ∀ M', Kp M M' → Q (some (zi (iz (fS cnt SS x gClimbs (-1))))) M') : zEv Γ 250 [zo 10 0 0, zi x] M Q := by
  refine en_250 (bk_250_0 (r_isSale hW (fun q => ⟨_, rfl, fun q' => absurd rfl q', fun _ => ?_⟩) (fun s M1 hs hx o1 hB => ⟨_, rfl, fun _ => ?_, fun q' => absurd q' (by decide)⟩)))
  · have := h M (Kp.rf M)
    rw [fS_out q] at this
    exact this
  · have hS := (hW.2.2 s hs).2
    have o1 : Off rSc M M1 := o1.wk fun _ _ _ _ => rSl_sc
    have ht1 : M1.1 10 0 0 21 = iz (-1) := (o1.1 _ _ _ _ (by unfold rSc; omega)).trans ht0
    rw [fS_in hs hW.2.1 hx] at h
    unfold gClimbs at h
    refine r_climbsBy (m := 999) hS hB ht1 (by omega) (fun M2 o2 p2 => ⟨_, rfl, ?_⟩)
    have hr : rn (SS s) 1000 ≤ 1000 := by
      have : ∀ m, rn (SS s) m ≤ m := by
        intro m
        induction m with
        | zero => exact Nat.le_refl 0
        | succ m ih => rw [rn]; split <;> omega
      exact this 1000
    have h := h M2 (Kp.ofR (o1.tr (o2.wk fun _ _ _ _ => oCl_sc)))
    rw [show (999 : Int32) = iz 999 from rfl, show rn (SS s) (999 + 1) = rn (SS s) 1000 from rfl, iz_le (by omega) (by omega) (by omega) (by omega)]
    refine ⟨fun q => ?_, fun q => ?_⟩
    · rw [if_pos (by omega)] at h
      exact h
    · rw [if_neg (by omega)] at h
      exact h
end Z83
