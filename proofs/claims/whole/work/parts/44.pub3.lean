def bdS (S : SB) : Nat → Int := fun i => S (17 + i)
def mkS (S : SB) : Nat → Int := fun i => S (24 + i)
/-- his gain by his bid x, the others bidding bd -/
def gX (S : SB) (bd : Nat → Int) (i : Nat) (x : Int) : Int := gB S bd (mkS S) (linO bd (mkS S) i (S 3) (S 1).toNat) i (S 3) x
def rep (S : SB) (bd : Nat → Int) (i top : Nat) : Nat := amx (fun k => gX S bd i (k : Int)) top
def rstl (S : SB) (bd : Nat → Int) (top i : Nat) : Bool := decide (gX S bd i (bd i) < gX S bd i ((rep S bd i top : Nat) : Int))
def gReply (S : SB) (y : Int32) : Int := if 0 ≤ y.toInt ∧ y.toInt < S 1 then ((rep S (bdS S) y.toInt.toNat 99 : Nat) : Int) else -1
def gRestless (S : SB) : Int := opI (fnd (rstl S (bdS S) 99) 0 (S 1).toNat)
theorem gX_gain {S : SB} {bd : Nat → Int} (hS : SOK S) {i : Nat} (hi : i < (S 1).toNat) (x : Int) : gnS (worS S) (payB S (updB bd i x) (mkS S) (S 3) (lin (updB bd i x) (mkS S) (fun _ => false) (S 3) (S 1).toNat) (S 0).toNat) (plc (lin (updB bd i x) (mkS S) (fun _ => false) (S 3) (S 1).toNat) (S 0).toNat i) i = gX S bd i x := by
  have h6 := hS.1
  exact gB_gain hS (by omega) hS.2.2.2.1.1 hi
theorem gX_b {S : SB} {bd : Nat → Int} (hS : SOK S) (hr : rng (S 1).toNat bd (mkS S)) {i : Nat} (hi : i < (S 1).toNat) {x : Int} (hx : 0 ≤ x ∧ x ≤ 99) : -100000 ≤ gX S bd i x ∧ gX S bd i x ≤ 100000 := by
  have h7 := hS.2.1
  exact gB_b hS hr (fun y hy => (linO_mem.mp hy).1) hi (by omega) hS.2.2.2.1 hx
theorem Kp.ofRp {M M' : zM} (h : Off cRp M M') (hi : lI M' 1) : Kp M M' := by
  refine ⟨fun c t' f i hp => h.1 c t' f i ?_, fun hl t' ht => ?_⟩
  · rintro (⟨q1, q2⟩ | ⟨q1, q2⟩) <;> (unfold Pst at hp; omega)
  · by_cases e : t' = 1
    · rw [e]; exact hi
    · exact ⟨(h.1 _ _ _ _ (by rintro (⟨-, q⟩ | ⟨q, -⟩); exact e q; omega)).trans (hl t' ht).1, fun k h1 h2 => (h.1 _ _ _ _ (by rintro (⟨-, q⟩ | ⟨q, -⟩); exact e q; omega)).trans ((hl t' ht).2 k h1 h2)⟩
theorem Kp.ofLk {M M' : zM} (h : Off (fun c t f _ => c = 6 ∧ t = 0 ∧ f = 2) M M') : Kp M M' := by
  refine ⟨fun c t' f i hp => h.1 c t' f i ?_, fun hl t' ht => ⟨(h.1 _ _ _ _ (by rintro ⟨q, -⟩; omega)).trans (hl t' ht).1, fun k h1 h2 => (h.1 _ _ _ _ (by rintro ⟨q, -⟩; omega)).trans ((hl t' ht).2 k h1 h2)⟩⟩
  rintro ⟨q1, q2⟩
  unfold Pst at hp
  omega
section Z44
variable {Γ : zC} {Q : zQ} {M : zM} {b cnt t ts : Nat} {S : SB} {SS : Nat → SB} {bd : Nat → Int}
theorem c_seek {i top : Nat} (hS : SOK S) (hC : cS M ts S) (hI : lI M 1) (hbd : ∀ k, k < (S 1).toNat → M.1 6 0 2 k = iz (bd k)) (hr : rng (S 1).toNat bd (mkS S)) (hi : i < (S 1).toNat) (htop : top ≤ 99)
    (h : ∀ M', Off cRp M M' → lI M' 1 → M'.1 6 0 0 3 = iz ((rep S bd i top : Nat) : Int) → Q (some (zi (iz (if rstl S bd top i = true then 1 else 0)))) M') : zEv Γ 89 [zo 6 0 0, zo 7 ts 0, zi (iz (i : Int)), zi (iz (top : Int))] M Q := by
  have h7 := hS.2.1
  refine c_seekReply (n := (S 1).toNat) (mk := mkS S) hS (by omega) hC hI hbd (fun _ _ => rfl) hr hi htop (fun M' ho hi' hrep => ?_)
  have := h M' ho hi' hrep
  unfold rstl at this
  simp only [decide_eq_true_iff] at this
  exact this
theorem c_firstRestless {top : Nat} (hS : SOK S) (hC : cS M ts S) (hI : lI M 1) (hbd : ∀ k, k < (S 1).toNat → M.1 6 0 2 k = iz (bd k)) (hr : rng (S 1).toNat bd (mkS S)) (htop : top ≤ 99)
    (h : ∀ M', Off cRp M M' → lI M' 1 → Q (some (zi (iz (opI (fnd (rstl S bd top) 0 (S 1).toNat))))) M') : zEv Γ 91 [zo 6 0 0, zo 7 ts 0, zi (iz (top : Int))] M Q := by
  have h7 := hS.2.1
  have loop : ∀ (d i : Nat) (M1 : zM), i + d = (S 1).toNat → Off cRp M M1 → lI M1 1 → fnd (rstl S bd top) i d = fnd (rstl S bd top) 0 (S 1).toNat → zGo Γ 91 Q 2 [some (zo 6 0 0), some (zo 7 ts 0), some (zi (iz (top : Int))), some (zi (iz (i : Int)))] [] M1 := by
    intro d
    induction d with
    | zero =>
      intro i M1 hi ho hi1 he
      have hC1 := hC.off ho (by rintro f i (⟨q, -⟩ | ⟨q, -⟩) <;> omega)
      have h2 := h M1 ho hi1
      rw [← he] at h2
      refine bk_91_2 ⟨fun _ => h2, fun q => ?_⟩
      rw [hC1.1 1 (by omega), iz_le (by omega) (by omega) (by omega) (by omega)] at q
      omega
    | succ d ih =>
      intro i M1 hi ho hi1 he
      have hC1 := hC.off ho (by rintro f i (⟨q, -⟩ | ⟨q, -⟩) <;> omega)
      refine bk_91_2 ⟨fun q => ?_, fun _ => ?_⟩
      · rw [hC1.1 1 (by omega), iz_le (by omega) (by omega) (by omega) (by omega)] at q
        omega
      · refine c_seek hS hC1 hi1 (fun k hk => (ho.1 _ _ _ _ (by rintro (⟨q, -⟩ | ⟨-, -, q, -⟩) <;> omega)).trans (hbd k hk)) hr (by omega) htop (fun M2 o2 hi2 _ => ⟨_, rfl, ?_⟩)
        rw [iz_s, iz0]
        rw [fnd] at he
        cases hg : rstl S bd top i with
        | true =>
          rw [hg, if_pos rfl] at he
          have h2 := h M2 (ho.tr o2) hi2
          rw [← he] at h2
          exact ⟨fun q => absurd q (by decide), fun _ => h2⟩
        | false =>
          rw [hg, if_neg (by decide)] at he
          exact ⟨fun _ => ih (i + 1) M2 (by omega) (ho.tr o2) hi2 he, fun q => absurd rfl q⟩
  exact en_91 (bk_91_0 (loop _ 0 M (by omega) (Off.rf M) hI rfl))
theorem c_reply {x y : Int32} (hW : cW M cnt SS) (hI : ∀ t, t < 4 → lI M t) (h : ∀ M', Kp M M' → Q (some (zi (iz (fS cnt SS x (fun S => gReply S y) (-1))))) M') : zEv Γ 120 [zo 9 0 0, zi x, zi y] M Q := by
  refine en_120 (bk_120_0 (c_saleAt hW (fun q => Or.inl ⟨rfl, ?_⟩) (fun s hs hx => Or.inr ⟨s, rfl, ?_⟩)))
  · have := h M (Kp.rf M)
    rw [fS_out q] at this
    exact this
  · obtain ⟨hC, hS⟩ := hW.2.2 s hs
    have h7 := hS.2.1
    refine c_hasBidder hS hC (fun q => ⟨_, rfl, fun q' => absurd rfl q', fun _ => ?_⟩) (fun i hi hy => ⟨_, rfl, fun _ => ?_, fun q' => absurd q' (by decide)⟩)
    · have h2 := h M (Kp.rf M)
      rw [fS_in hs hW.2.1 hx] at h2
      unfold gReply at h2
      rw [if_neg (by omega)] at h2
      exact h2
    · subst hy
      refine c_lookAt (fun M1 o1 hb1 => ⟨rfl, ?_⟩)
      have hC1 := hC.off o1 (by rintro f i ⟨q, -⟩; omega)
      refine c_seek (bd := bdS (SS s)) (top := 99) hS hC1 ((Kp.ofLk o1).2 hI 1 (by omega)) (fun k hk => (hb1 k (by omega)).trans (hC.2.2.2.2.1 k (by omega))) (rngS hS) (by omega) (by omega) (fun M2 o2 hi2 hrep => ⟨_, rfl, ?_⟩)
      have h2 := h M2 ((Kp.ofLk o1).tr (Kp.ofRp o2 hi2))
      rw [fS_in hs hW.2.1 hx] at h2
      unfold gReply at h2
      rw [iz_toInt (by omega) (by omega), if_pos (by omega), show ((i : Int).toNat) = i by omega] at h2
      rw [hrep]
      exact h2
theorem c_restless {x : Int32} (hW : cW M cnt SS) (hI : ∀ t, t < 4 → lI M t) (h : ∀ M', Kp M M' → Q (some (zi (iz (fS cnt SS x gRestless (-1))))) M') : zEv Γ 121 [zo 9 0 0, zi x] M Q := by
  refine en_121 (bk_121_0 (c_saleAt hW (fun q => Or.inl ⟨rfl, ?_⟩) (fun s hs hx => Or.inr ⟨s, rfl, ?_⟩)))
  · have := h M (Kp.rf M)
    rw [fS_out q] at this
    exact this
  · obtain ⟨hC, hS⟩ := hW.2.2 s hs
    have h7 := hS.2.1
    refine c_lookAt (fun M1 o1 hb1 => ⟨rfl, ?_⟩)
    have hC1 := hC.off o1 (by rintro f i ⟨q, -⟩; omega)
    refine c_firstRestless (bd := bdS (SS s)) (top := 99) hS hC1 ((Kp.ofLk o1).2 hI 1 (by omega)) (fun k hk => (hb1 k (by omega)).trans (hC.2.2.2.2.1 k (by omega))) (rngS hS) (by omega) (fun M2 o2 hi2 => ⟨_, rfl, ?_⟩)
    have h2 := h M2 ((Kp.ofLk o1).tr (Kp.ofRp o2 hi2))
    rw [fS_in hs hW.2.1 hx] at h2
    exact h2
theorem r_rep {i top : Nat} (hS : SOK S) (hB : rB M b S) (ht : M.1 10 0 0 21 = iz (-1)) (hb : rBd M (S 1).toNat bd (mkS S) (fun _ => false)) (hr : rng (S 1).toNat bd (mkS S)) (hi : i < (S 1).toNat) (htop : top ≤ 99)
    (h : ∀ M', Off rRp M M' → rB M' b S → M'.1 10 0 0 21 = iz (-1) → rBd M' (S 1).toNat bd (mkS S) (fun _ => false) → rLn M' S bd (mkS S) (S 3) (S 1).toNat → M'.1 10 0 0 23 = iz (gX S bd i ((rep S bd i top : Nat) : Int)) → Q (some (zi (iz ((rep S bd i top : Nat) : Int)))) M') : zEv Γ 203 [zo 10 0 0, zi (iz (i : Int)), zi (iz (top : Int))] M Q := by
  have h7 := hS.2.1
  refine r_replyOf (n := (S 1).toNat) hS (by omega) hB ht hb hr hi htop (fun M' ho hb' hL hg => h M' ho (hB.off ho (fun i => rRp_n (by omega) (by omega) (by omega) (by omega)) (rRp_n (by omega) (by omega) (by omega) (by omega)) (rRp_n (by omega) (by omega) (by omega) (by omega)) (rRp_n (by omega) (by omega) (by omega) (by omega))) ((ho.1 _ _ _ _ (rRp_n (by omega) (by omega) (by omega) (by omega))).trans ht) hb' hL hg)
theorem r_gainA (hS : SOK S) (hB : rB M b S) (hL : rLn M S bd (mkS S) (S 3) (S 1).toNat) (ht : M.1 10 0 0 21 = iz (-1)) {i : Nat} (hi : i < (S 1).toNat) (h : Q (some (zi (iz (gX S bd i (bd i))))) M) : zEv Γ 192 [zo 10 0 0, zi (iz (i : Int))] M Q := by
  have h7 := hS.2.1
  refine r_gainX (n := (S 1).toNat) hS hB (by omega) hL ht (by omega) ?_
  rw [← gX_gain hS hi (bd i), updB_self] at h
  exact h
theorem r_reply {x y : Int32} (hW : rW M cnt SS) (ht0 : M.1 10 0 0 21 = iz (-1)) (h : ∀ M', Kp M M' → Q (some (zi (iz (fS cnt SS x (fun S => gReply S y) (-1))))) M') : zEv Γ 204 [zo 10 0 0, zi x, zi y] M Q := by
  refine en_204 (bk_204_0 (r_takesSale hW (fun q => ⟨_, rfl, fun _ => ?_, fun q' => absurd rfl q'⟩) (fun s n M1 hs hx hn ho hB hb => ⟨_, rfl, fun q' => absurd q' (by decide), fun _ => ?_⟩)))
  · have := h M (Kp.rf M)
    rw [fS_out q] at this
    exact this
  · have hS := (hW.2.2 s hs).2
    have h7 := hS.2.1
    have en : n = (SS s 1).toNat := by omega
    subst en
    have ht1 : M1.1 10 0 0 21 = iz (-1) := (ho.1 _ _ _ _ (by rintro ⟨-, -, -, -, q⟩; exact q rfl rfl)).trans ht0
    refine r_isBidder hS hB (fun q => ⟨_, rfl, fun _ => ?_, fun q' => absurd rfl q'⟩) (fun i hi hy => ⟨_, rfl, fun q' => absurd q' (by decide), fun _ => ?_⟩)
    · have h2 := h M1 (Kp.ofR ho)
      rw [fS_in hs hW.2.1 hx] at h2
      unfold gReply at h2
      rw [if_neg (by omega)] at h2
      exact h2
    · subst hy
      refine r_rep (bd := bdS (SS s)) (top := 99) hS hB ht1 hb (rngS hS) (by omega) (by omega) (fun M2 o2 _ _ _ _ _ => ⟨_, rfl, ?_⟩)
      have h2 := h M2 ((Kp.ofR ho).tr (Kp.ofR (o2.wk fun _ _ _ _ => rRp_sc)))
      rw [fS_in hs hW.2.1 hx] at h2
      unfold gReply at h2
      rw [iz_toInt (by omega) (by omega), if_pos (by omega), show ((i : Int).toNat) = i by omega] at h2
      exact h2
theorem r_restless {x : Int32} (hW : rW M cnt SS) (ht0 : M.1 10 0 0 21 = iz (-1)) (h : ∀ M', Kp M M' → Q (some (zi (iz (fS cnt SS x gRestless (-1))))) M') : zEv Γ 205 [zo 10 0 0, zi x] M Q := by
  refine en_205 (bk_205_0 (r_takesSale hW (fun q => ⟨_, rfl, fun q' => absurd rfl q', fun _ => ?_⟩) (fun s n M1 hs hx hn ho hB hb => ⟨_, rfl, fun _ => ?_, fun q' => absurd q' (by decide)⟩)))
  · have := h M (Kp.rf M)
    rw [fS_out q] at this
    exact this
  · have hS := (hW.2.2 s hs).2
    have h7 := hS.2.1
    have en : n = (SS s 1).toNat := by omega
    subst en
    have ht1 : M1.1 10 0 0 21 = iz (-1) := (ho.1 _ _ _ _ (by rintro ⟨-, -, -, -, q⟩; exact q rfl rfl)).trans ht0
    have loop : ∀ (d i : Nat) (M2 : zM), i + d = (SS s 1).toNat → Off rSc M M2 → rB M2 (510 + 260 * s) (SS s) → M2.1 10 0 0 21 = iz (-1) → rBd M2 (SS s 1).toNat (bdS (SS s)) (mkS (SS s)) (fun _ => false) → fnd (rstl (SS s) (bdS (SS s)) 99) i d = fnd (rstl (SS s) (bdS (SS s)) 99) 0 (SS s 1).toNat → zGo Γ 205 Q 12 [some (zo 10 0 0), none, some (zi (iz (i : Int))), none] [] M2 := by
      intro d
      induction d with
      | zero =>
        intro i M2 hi o2 hB2 ht2 hb2 he
        have h2 := h M2 (Kp.ofR o2)
        rw [fS_in hs hW.2.1 hx] at h2
        unfold gRestless at h2
        rw [← he] at h2
        refine bk_205_12 ⟨fun _ => h2, fun q => ?_⟩
        rw [hB2.2.2.1, iz_le (by omega) (by omega) (by omega) (by omega)] at q
        omega
      | succ d ih =>
        intro i M2 hi o2 hB2 ht2 hb2 he
        refine bk_205_12 ⟨fun q => ?_, fun _ => ?_⟩
        · rw [hB2.2.2.1, iz_le (by omega) (by omega) (by omega) (by omega)] at q
          omega
        · refine r_rep (bd := bdS (SS s)) (top := 99) hS hB2 ht2 hb2 (rngS hS) (by omega) (by omega) (fun M3 o3 hB3 ht3 hb3 hL3 hg3 => ⟨_, rfl, r_gainA hS hB3 hL3 ht3 (by omega) ⟨_, rfl, ?_⟩⟩)
          have o4 := o2.tr (o3.wk fun _ _ _ _ => rRp_sc)
          have hrp := amx_le (f := fun k => gX (SS s) (bdS (SS s)) i (k : Int)) 99
          have b1 := gX_b (bd := bdS (SS s)) hS (rngS hS) (show i < (SS s 1).toNat by omega) (x := bdS (SS s) i) ((rngS hS) i (by omega)).1
          have b2 := gX_b (bd := bdS (SS s)) hS (rngS hS) (show i < (SS s 1).toNat by omega) (x := ((rep (SS s) (bdS (SS s)) i 99 : Nat) : Int)) (by unfold rep; omega)
          rw [hg3, iz_le (by omega) (by omega) (by omega) (by omega), iz_s, iz0, iz_le (by omega) (by omega) (by unfold rep; omega) (by unfold rep; omega)]
          rw [fnd] at he
          refine ⟨fun q => ih (i + 1) M3 (by omega) o4 hB3 ht3 hb3 ?_, fun q => ⟨fun _ => ?_, fun q' => absurd (by unfold rep; omega) q'⟩⟩
          · rw [if_neg (by unfold rstl; rw [decide_eq_true_iff]; omega)] at he
            exact he
          · rw [if_pos (by unfold rstl; rw [decide_eq_true_iff]; omega)] at he
            have h2 := h M3 (Kp.ofR o4)
            rw [fS_in hs hW.2.1 hx] at h2
            unfold gRestless at h2
            rw [← he] at h2
            exact h2
    exact loop _ 0 M1 (by omega) ho hB ht1 hb rfl
end Z44
