/-! best, even, truly, judged, tells -/
section Z62
variable {Γ : zC} {Q : zQ} {M : zM} {b cnt t ts n : Nat} {S : SB} {SS : Nat → SB}
theorem c_best {x y : Int32} (hW : cW M cnt SS) (hI : ∀ t, t < 4 → lI M t) (h : ∀ M', Kp M M' → Q (some (zi (iz (fS cnt SS x (fun S => gBest S y) (-1))))) M') : zEv Γ 125 [zo 9 0 0, zi x, zi y] M Q := by
  refine en_125 (bk_125_0 (c_saleAt hW (fun q => Or.inl ⟨rfl, ?_⟩) (fun s hs hx => Or.inr ⟨s, rfl, ?_⟩)))
  · have := h M (Kp.rf M)
    rw [fS_out q] at this
    exact this
  · obtain ⟨hC, hS⟩ := hW.2.2 s hs
    have h7 := hS.2.1
    have h6 := hS.1
    obtain ⟨w, hw1, hw2, rfl⟩ := iz_ex y
    rw [fS_in hs hW.2.1 hx] at h
    unfold gBest at h
    rw [iz_toInt (by omega) (by omega)] at h
    refine ⟨fun q1 => ?_, fun q1 => c_line0 hC hS (hI 0 (by omega)) (fun M1 k1 C1 L1 => ⟨rfl, c_allWorths hS C1 L1 ⟨_, rfl, ?_⟩⟩)⟩
    · rw [iz1, iz_eq (by omega) (by omega) (by omega) (by omega)] at q1
      rw [if_neg q1] at h
      rw [hC.1 0 (by omega), show (10 : Int32) = iz 10 from rfl]
      refine c_behind (by omega) (by omega) (by omega) ⟨_, rfl, ?_⟩
      rw [iz_m1, iz0, iz_eq (by omega) (by omega) (by omega) (by omega)]
      refine ⟨fun q0 => c_solveBest hS hC (fun M1 o1 w1 f1 r1 => ⟨_, rfl, fun q => absurd q0 q, fun _ => ?_⟩), fun q0 => ⟨fun q2 => c_solveBest hS hC (fun M1 o1 w1 f1 r1 => ⟨_, rfl, fun _ => ?_, fun q => absurd q q0⟩), fun q2 => ?_⟩⟩
      · have := h M1 (Kp.ofM o1)
        rw [if_pos q0] at this
        exact this
      · have := h M1 (Kp.ofM o1)
        rw [if_neg q0] at this
        by_cases z : 10 ≤ w ∧ w - 10 < SS s 0
        · rw [if_pos z] at this ⊢
          rw [iz_cl (by omega) (by omega), r1 _ (by omega), iz_in (by omega) (by omega)]
          exact ⟨by omega, this⟩
        · rw [if_neg z] at q2
          exact absurd rfl q2
      · have := h M (Kp.rf M)
        rw [if_neg q0] at this
        by_cases z : 10 ≤ w ∧ w - 10 < SS s 0
        · rw [if_pos z, iz_eq (by omega) (by omega) (by omega) (by omega)] at q2
          omega
        · rw [if_neg z] at this
          exact this
    · rw [iz1, iz_eq (by omega) (by omega) (by omega) (by omega)] at q1
      have := h M1 k1
      rw [if_pos q1] at this
      exact this
theorem c_even {x y m : Int32} (hW : cW M cnt SS) (h : ∀ M', Kp M M' → Q (some (zi (iz (fS cnt SS x (fun S => gEven S y m) (-1))))) M') : zEv Γ 126 [zo 9 0 0, zi x, zi y, zi m] M Q := by
  refine en_126 (bk_126_0 (c_saleAt hW (fun q => Or.inl ⟨rfl, ?_⟩) (fun s hs hx => Or.inr ⟨s, rfl, ?_⟩)))
  · have := h M (Kp.rf M)
    rw [fS_out q] at this
    exact this
  · obtain ⟨hC, hS⟩ := hW.2.2 s hs
    have h7 := hS.2.1
    have h6 := hS.1
    rw [fS_in hs hW.2.1 hx] at h
    unfold gEven at h
    refine c_hasBoard hS hC (fun q => ⟨_, rfl, fun q' => absurd rfl q', fun _ => ?_⟩) (fun j hj hy => ⟨_, rfl, fun _ => ?_, fun q' => absurd q' (by decide)⟩)
    · have h2 := h M (Kp.rf M)
      rw [if_neg (by omega)] at h2
      exact h2
    · subst hy
      rw [iz_toInt (by omega) (by omega), if_pos (by omega), show ((j : Int).toNat) = j by omega] at h
      refine c_solveBest hS hC (fun M1 o1 w1 f1 r1 => ⟨_, rfl, fun q => ?_, fun q => ?_⟩)
      · have C1 := hC.off o1 (by unfold oMa; intro f i; omega)
        refine c_two hS C1 f1 w1 (by omega) (fun M2 o2 => ⟨_, rfl, ?_⟩)
        have := h M2 (Kp.ofM (o1.tr o2))
        rw [if_pos q] at this
        rw [iz_sub]
        exact this
      · have C1 := hC.off o1 (by unfold oMa; intro f i; omega)
        refine c_wo hS C1 f1 w1 (by omega) (fun M2 o2 => ⟨_, rfl, ?_⟩)
        have := h M2 (Kp.ofM (o1.tr o2))
        rw [if_neg q] at this
        rw [iz_sub]
        exact this
theorem c_truly {x y : Int32} (hW : cW M cnt SS) (h : ∀ M', Kp M M' → Q (some (zi (iz (fS cnt SS x (fun S => gTruly S y) (-1))))) M') : zEv Γ 127 [zo 9 0 0, zi x, zi y] M Q := by
  refine en_127 (bk_127_0 (c_saleAt hW (fun q => Or.inl ⟨rfl, ?_⟩) (fun s hs hx => Or.inr ⟨s, rfl, ?_⟩)))
  · have := h M (Kp.rf M)
    rw [fS_out q] at this
    exact this
  · obtain ⟨hC, hS⟩ := hW.2.2 s hs
    have h7 := hS.2.1
    have h6 := hS.1
    rw [fS_in hs hW.2.1 hx] at h
    unfold gTruly at h
    refine c_hasBidder hS hC (fun q => ⟨_, rfl, fun q' => absurd rfl q', fun _ => ?_⟩) (fun i hi hy => ⟨_, rfl, fun _ => ?_, fun q' => absurd q' (by decide)⟩)
    · have h2 := h M (Kp.rf M)
      rw [if_neg (by omega)] at h2
      exact h2
    · subst hy
      rw [iz_toInt (by omega) (by omega), if_pos (by omega), show ((i : Int).toNat) = i by omega] at h
      refine c_solveBest hS hC (fun M1 o1 w1 f1 r1 => ⟨_, rfl, ?_⟩)
      have C1 := hC.off o1 (by unfold oMa; intro f i; omega)
      exact c_harm hS C1 f1 w1 r1 (by omega) (fun M2 o2 => ⟨_, rfl, h M2 (Kp.ofM (o1.tr o2))⟩)
theorem c_judged {x : Int32} (hW : cW M cnt SS) (h : ∀ M', Kp M M' → Q (some (zi (iz (fS cnt SS x gJudged (-1))))) M') : zEv Γ 129 [zo 9 0 0, zi x] M Q := by
  refine en_129 (bk_129_0 (c_saleAt hW (fun q => Or.inl ⟨rfl, ?_⟩) (fun s hs hx => Or.inr ⟨s, rfl, ?_⟩)))
  · have := h M (Kp.rf M)
    rw [fS_out q] at this
    exact this
  · obtain ⟨hC, hS⟩ := hW.2.2 s hs
    rw [fS_in hs hW.2.1 hx] at h
    refine c_solveBest hS hC (fun M1 o1 w1 f1 r1 => ⟨_, rfl, ?_⟩)
    have C1 := hC.off o1 (by unfold oMa; intro f i; omega)
    exact c_judge hS C1 r1 ⟨_, rfl, h M1 (Kp.ofM o1)⟩
theorem c_tells {x y v m : Int32} (hW : cW M cnt SS) (h : ∀ M', Kp M M' → Q (some (zi (iz (fS cnt SS x (fun S => gTells S y v m) (-100000))))) M') : zEv Γ 143 [zo 9 0 0, zi x, zi y, zi v, zi m] M Q := by
  refine en_143 (bk_143_0 (c_saleAt hW (fun q => Or.inl ⟨rfl, ?_⟩) (fun s hs hx => Or.inr ⟨s, rfl, ?_⟩)))
  · have := h M (Kp.rf M)
    rw [fS_out q] at this
    exact this
  · obtain ⟨hC, hS⟩ := hW.2.2 s hs
    have h7 := hS.2.1
    have h6 := hS.1
    rw [fS_in hs hW.2.1 hx] at h
    unfold gTells at h
    have bad : ¬ ((0 ≤ y.toInt ∧ y.toInt < SS s 1) ∧ 0 ≤ v.toInt ∧ v.toInt ≤ 99) → Q (some (zi (-100000))) M := fun q => by
      have h2 := h M (Kp.rf M)
      rw [if_neg q] at h2
      exact h2
    refine c_hasBidder hS hC (fun q => ⟨_, rfl, fun _ => bad (by omega), fun q' => absurd rfl q'⟩) (fun i hi hy => ⟨_, rfl, fun q' => absurd q' (by decide), fun _ => c_upToTop (fun q => ⟨_, rfl, fun q' => absurd rfl q', fun _ => bad (by omega)⟩) (fun a ha hv => ⟨_, rfl, fun _ => ?_, fun q' => absurd q' (by decide)⟩)⟩)
    subst hy hv
    rw [iz_toInt (by omega) (by omega), iz_toInt (by omega) (by omega), if_pos (by omega), show ((i : Int).toNat) = i by omega] at h
    refine c_solveTold hS hC (show i < (SS s 1).toNat by omega) (by omega) (fun M1 o1 w1 f1 r1 => ⟨_, rfl, ?_⟩)
    have C1 := hC.off o1 (by unfold oMa; intro f i; omega)
    refine c_boardOfB hS C1 r1 (by omega) ⟨_, rfl, fun q => ?_, fun q => ?_⟩
    · simp only [if_pos q] at h
      cases hp : plA (SS s) (wT (SS s) (i : Int) (a : Int)) i with
      | none =>
        have h2 := h M1 (Kp.ofM o1)
        rw [hp] at h2
        exact ⟨fun q' => absurd rfl q', fun _ => h2⟩
      | some p =>
        have hpl := plA_lt hp
        refine ⟨fun _ => c_worthTo hS C1 (by omega) (show p < 6 by omega) ⟨_, rfl, c_harm hS C1 f1 w1 r1 (by omega) (fun M2 o2 => ⟨_, rfl, ?_⟩)⟩, fun q' => ?_⟩
        · have h2 := h M2 (Kp.ofM (o1.tr o2))
          rw [hp] at h2
          rw [iz_sub]
          exact h2
        · have q' : iz (p : Int) = iz (-1) := q'
          rw [iz_eq (by omega) (by omega) (by omega) (by omega)] at q'
          omega
    · have h2 := h M1 (Kp.ofM o1)
      simp only [if_neg q] at h2
      exact h2
theorem c_beside {x y : Int32} (hW : cW M cnt SS) (h : ∀ M', Kp M M' → Q (some (zi (iz (fS cnt SS x (fun S => gBeside S y) (-100000))))) M') : zEv Γ 135 [zo 9 0 0, zi x, zi y] M Q := by
  refine en_135 (bk_135_0 (c_saleAt hW (fun q => Or.inl ⟨rfl, ?_⟩) (fun s hs hx => Or.inr ⟨s, rfl, ?_⟩)))
  · have := h M (Kp.rf M)
    rw [fS_out q] at this
    exact this
  · obtain ⟨hC, hS⟩ := hW.2.2 s hs
    have h7 := hS.2.1
    have h6 := hS.1
    obtain ⟨w, hw1, hw2, rfl⟩ := iz_ex y
    rw [fS_in hs hW.2.1 hx] at h
    unfold gBeside at h
    rw [iz_toInt (by omega) (by omega)] at h
    rw [hC.1 0 (by omega), show (10 : Int32) = iz 10 from rfl]
    refine c_behind (by omega) (by omega) (by omega) ⟨_, rfl, ?_⟩
    rw [iz_m1, iz0, iz_eq (by omega) (by omega) (by omega) (by omega)]
    refine ⟨fun q0 => c_solveBeside hS hC (fun M1 o1 r1 => ⟨_, rfl, fun q => absurd q0 q, fun _ => ?_⟩), fun q0 => ⟨fun q2 => c_solveBeside hS hC (fun M1 o1 r1 => ⟨_, rfl, fun _ => ?_, fun q => absurd q q0⟩), fun q2 => ?_⟩⟩
    · have := h M1 (Kp.ofM o1)
      rw [if_pos q0] at this
      exact this
    · have h2 := h M1 (Kp.ofM o1)
      rw [if_neg q0] at h2
      by_cases z : 10 ≤ w ∧ w - 10 < SS s 0
      · rw [if_pos z] at h2 ⊢
        rw [iz_cl (by omega) (by omega), r1 _ (by omega), iz_in (by omega) (by omega), row_no hS]
        refine ⟨by omega, fun q3 => ⟨by omega, ?_⟩, fun q3 => ?_⟩
        · cases hr : rwA (SS s) true (worS (SS s)) (w - 10).toNat with
          | none => exact absurd hr q3
          | some i =>
            rw [hr] at h2
            exact h2
        · rw [q3] at h2
          exact h2
      · rw [if_neg z] at q2
        exact absurd rfl q2
    · have := h M (Kp.rf M)
      rw [if_neg q0] at this
      by_cases z : 10 ≤ w ∧ w - 10 < SS s 0
      · rw [if_pos z, iz_eq (by omega) (by omega) (by omega) (by omega)] at q2
        omega
      · rw [if_neg z] at this
        exact this
theorem Kp.ofB {M1 M2 : zM} (h1 : Off rSc M M1) (h2 : Off oBs M1 M2) : Kp M M2 := Kp.ofR (h1.tr (h2.wk fun _ _ _ _ => oBs_sc))
theorem oMs_bs {c t f i : Nat} (h : oMs c t f i) : oBs c t f i := by
  unfold oMs at h
  unfold oBs
  omega
theorem r_best {x y : Int32} (hW : rW M cnt SS) (ht0 : M.1 10 0 0 21 = iz (-1)) (h : ∀ M', Kp M M' → Q (some (zi (iz (fS cnt SS x (fun S => gBest S y) (-1))))) M') : zEv Γ 218 [zo 10 0 0, zi x, zi y] M Q := by
  refine en_218 (bk_218_0 (r_line hW ht0 (fun q => ⟨_, rfl, fun q' => absurd rfl q', fun _ => ?_⟩) (fun s M1 hs hx hS o1 hB hor hpy ht1 => ⟨_, rfl, fun _ => ?_, fun q' => absurd q' (by decide)⟩)))
  · have := h M (Kp.rf M)
    rw [fS_out q] at this
    exact this
  · have h7 := hS.2.1
    have h6 := hS.1
    have hlen := linS_len hS
    obtain ⟨w, hw1, hw2, rfl⟩ := iz_ex y
    rw [fS_in hs hW.2.1 hx] at h
    unfold gBest at h
    rw [iz_toInt (by omega) (by omega)] at h
    refine r_bestNow (tl := -1) (tg := 0) hS hB ⟨ht1, by omega, Or.inr rfl⟩ (fun M2 o2 R2 a2 r2 => ⟨rfl, ?_⟩)
    rw [wT_no] at a2 r2
    have h := h M2 (Kp.ofB o1 o2)
    have B2 := hB.bs o2 (fun _ _ _ _ z => z)
    have T2 : rT M2 (-1) 0 := rT.bs ⟨ht1, by omega, Or.inr rfl⟩ o2 (fun _ _ _ _ z => z)
    have e18 : M2.1 10 0 0 18 = iz ((linS (SS s)).length : Int) := (o2.1 _ _ _ _ (by unfold oBs; omega)).trans hor.1
    have e20 : ∀ k, k < (linS (SS s)).length → M2.1 10 0 20 k = iz (((linS (SS s)).getD k 0 : Nat) : Int) := fun k hk => (o2.1 _ _ _ _ (by unfold oBs; omega)).trans (hor.2 k hk)
    have fin : zEv Γ 154 [zi (iz w), zi 10, zi (9 + M2.1 10 0 0 13)] M2 (fun o M1 => ∃ r1, o = some (zi r1) ∧ ((r1 = 0 → ((¬ iz w = 0 → ((¬ iz w = 1 → Q (some (zi (-1))) (M1)) ∧ (iz w = 1 → Q (some (zi (iz (sumTo (fun j => worS (SS s) ((linS (SS s)).getD j 0) j) (stN (SS s)))))) (M1)))) ∧ (iz w = 0 → Q (some (zi (M1.1 10 0 0 32))) (M1)))) ∧ (¬ r1 = 0 → (vp_in (iz w - 10) 6 ∧ Q (some (zi (M1.1 10 0 32 (iz w - 10).toNatClampNeg))) (M1))))) := by
      rw [B2.2.1, show (9 : Int32) = iz 9 from rfl, iz_add, show (10 : Int32) = iz 10 from rfl, iz_sub]
      refine r_isIn (by omega) (by omega) (by omega) (fun q1 q2 => ⟨_, rfl, fun z => absurd z (by decide), fun _ => ?_⟩) (fun q => ⟨_, rfl, fun _ => ?_, fun z => absurd rfl z⟩)
      · rw [if_neg (by omega), if_neg (by omega), if_pos (by omega)] at h
        rw [iz_cl (by omega) (by omega), r2 _ (by omega), iz_in (by omega) (by omega)]
        exact ⟨by omega, h⟩
      · rw [show (iz w = 0) = (w = 0) by rw [iz0, iz_eq (by omega) (by omega) (by omega) (by omega)], show (iz w = 1) = (w = 1) by rw [iz1, iz_eq (by omega) (by omega) (by omega) (by omega)], a2]
        refine ⟨fun q0 => ⟨fun q1 => ?_, fun q1 => ?_⟩, fun q0 => ?_⟩
        · rw [if_neg q1, if_neg q0, if_neg (by omega)] at h
          exact h
        · rw [if_pos q1] at h
          exact h
        · rw [if_neg (by omega), if_pos q0] at h
          exact h
    refine nloop (G := fun j => zGo Γ 218 Q 19 [some (zo 10 0 0), none, some (zi (iz w)), some (zi (iz (sumTo (fun j => worS (SS s) ((linS (SS s)).getD j 0) j) j))), some (zi (iz (j : Int)))] [] M2) (n := stN (SS s)) ?_ (fun j hj ih => ?_) (stN (SS s)) 0 (by omega)
    · have hst : stN (SS s) = min (linS (SS s)).length (SS s 0).toNat := rfl
      refine bk_218_19 ⟨fun _ => fin, fun q => ⟨fun _ => fin, fun q2 => ?_⟩⟩
      rw [B2.2.1, iz_le (by omega) (by omega) (by omega) (by omega)] at q
      rw [e18, iz_le (by omega) (by omega) (by omega) (by omega)] at q2
      omega
    · have hst : stN (SS s) = min (linS (SS s)).length (SS s 0).toNat := rfl
      refine bk_218_19 ⟨fun q => ?_, fun _ => ⟨fun q => ?_, fun _ => ⟨iz_inN (by omega) (by omega), ?_⟩⟩⟩
      · rw [B2.2.1, iz_le (by omega) (by omega) (by omega) (by omega)] at q
        omega
      · rw [e18, iz_le (by omega) (by omega) (by omega) (by omega)] at q
        omega
      · have hx2 := linS_lt hS (getD_mem (show j < (linS (SS s)).length by omega))
        rw [iz_clN (by omega), e20 j (by omega)]
        refine r_worT hS B2 T2 (by omega) (by omega) ⟨_, rfl, ?_⟩
        rw [wT_no, iz_add, iz_s]
        rw [sumTo] at ih
        exact ih
theorem r_even {x y m : Int32} (hW : rW M cnt SS) (ht0 : M.1 10 0 0 21 = iz (-1)) (h : ∀ M', Kp M M' → Q (some (zi (iz (fS cnt SS x (fun S => gEven S y m) (-1))))) M') : zEv Γ 219 [zo 10 0 0, zi x, zi y, zi m] M Q := by
  refine en_219 (bk_219_0 (r_isSale hW (fun q => ⟨_, rfl, fun _ => ?_, fun q' => absurd rfl q'⟩) (fun s M1 hs hx o1 hB => ⟨_, rfl, fun q' => absurd q' (by decide), fun _ => ?_⟩)))
  · have := h M (Kp.rf M)
    rw [fS_out q] at this
    exact this
  · have hS := (hW.2.2 s hs).2
    have h7 := hS.2.1
    have h6 := hS.1
    have o1 : Off rSc M M1 := o1.wk fun _ _ _ _ => rSl_sc
    have ht1 : M1.1 10 0 0 21 = iz (-1) := (o1.1 _ _ _ _ (by unfold rSc; omega)).trans ht0
    rw [fS_in hs hW.2.1 hx] at h
    unfold gEven at h
    refine r_isBoard hS hB (fun q => ⟨_, rfl, fun q' => absurd rfl q', fun _ => ?_⟩) (fun j hj hy => ⟨_, rfl, fun _ => ?_, fun q' => absurd q' (by decide)⟩)
    · have h2 := h M1 (Kp.ofR o1)
      rw [if_neg (by omega)] at h2
      exact h2
    · subst hy
      rw [iz_toInt (by omega) (by omega), if_pos (by omega), show ((j : Int).toNat) = j by omega] at h
      refine r_bestNow (tl := -1) (tg := 0) hS hB ⟨ht1, by omega, Or.inr rfl⟩ (fun M2 o2 R2 a2 r2 => ⟨rfl, ?_⟩)
      rw [wT_no] at a2 r2
      have B2 := hB.bs o2 (fun _ _ _ _ z => z)
      have T2 : rT M2 (-1) 0 := rT.bs ⟨ht1, by omega, Or.inr rfl⟩ o2 (fun _ _ _ _ z => z)
      have e13 : M2.1 10 0 0 13 = iz ((SS s 0).toNat : Int) := by rw [B2.2.1]; exact congrArg iz (by omega)
      refine ⟨fun q => ?_, fun q => ?_⟩
      · rw [e13, iz_clN (by omega)]
        have e13' : (zw M2 10 0 30 (SS s 0).toNat (iz (j : Int))).1 10 0 0 13 = iz ((SS s 0).toNat : Int) := (zw_ne (by omega)).trans e13
        rw [e13', iz_s, a2]
        have o3 : Off oBs M2 (zw (zw M2 10 0 30 (SS s 0).toNat (iz (j : Int))) 10 0 0 28 (iz (((SS s 0).toNat + 1 : Nat) : Int))) := ((Off.rf M2).w _ (by unfold oBs; omega)).w _ (by unfold oBs; omega)
        have B3 := B2.bs o3 (fun _ _ _ _ z => z)
        have T3 := T2.bs o3 (fun _ _ _ _ z => z)
        have R3 : rRow (zw (zw M2 10 0 30 (SS s 0).toNat (iz (j : Int))) 10 0 0 28 (iz (((SS s 0).toNat + 1 : Nat) : Int))) (SS s) ((SS s 0).toNat + 1) (two (SS s) j) := by
          refine ⟨zw_eq, by omega, fun k hk => ?_⟩
          unfold two
          rw [zw_ne (by omega)]
          by_cases e : k = (SS s 0).toNat
          · rw [if_pos e, e, zw_eq]
            exact ⟨rfl, by omega⟩
          · rw [if_neg e, zw_ne (by omega), (R2.2.2 k (by omega)).1, exR_m]
            exact ⟨rfl, by omega⟩
        refine ⟨iz_inN (by omega) (by omega), r_mostOf (k := 7) hS B3 T3 R3 (Or.inl ⟨rfl, rfl⟩) (fun M4 o4 c4 => ⟨_, rfl, ?_⟩)⟩
        have h2 := h M4 (Kp.ofB o1 ((o2.tr o3).tr (o4.wk fun _ _ _ _ => oMs_bs)))
        rw [if_pos q] at h2
        rw [wT_no, iz_sub]
        exact h2
      · rw [a2]
        refine zloop (P := fun k M3 => Off oBs M2 M3 ∧ M3.1 10 0 0 28 = iz ((exN (j : Int) k : Nat) : Int) ∧ ∀ k', k' < exN (j : Int) k → M3.1 10 0 30 k' = iz ((exR (j : Int) k' : Nat) : Int)) (G := fun k M3 => zGo Γ 219 Q 40 [some (zo 10 0 0), none, some (zi (iz (j : Int))), none, some (zi (iz (mvA (SS s) false (worS (SS s))))), some (zi (iz (k : Int)))] [] M3) (n := (SS s 0).toNat) ?_ ?_ (SS s 0).toNat 0 _ (by omega) ⟨(Off.rf M2).w _ (by unfold oBs; omega), by rw [zw_eq]; unfold exN; split <;> rfl, fun k hk => by unfold exN at hk; split at hk <;> omega⟩
        · rintro M3 ⟨o3, l3, k3⟩
          have B3 := B2.bs o3 (fun _ _ _ _ z => z)
          have T3 := T2.bs o3 (fun _ _ _ _ z => z)
          have R3 : rRow M3 (SS s) (exN (j : Int) (SS s 0).toNat) (exR (j : Int)) := ⟨l3, by unfold exN; split <;> omega, fun k hk => ⟨k3 k hk, exR_lt hk⟩⟩
          refine bk_219_40 ⟨fun _ => r_mostOf (k := 7) hS B3 T3 R3 (Or.inl ⟨rfl, rfl⟩) (fun M4 o4 c4 => ⟨_, rfl, ?_⟩), fun z => ?_⟩
          · have h2 := h M4 (Kp.ofB o1 ((o2.tr o3).tr (o4.wk fun _ _ _ _ => oMs_bs)))
            rw [if_neg q] at h2
            rw [wT_no, iz_sub]
            exact h2
          · rw [B3.2.1, iz_le (by omega) (by omega) (by omega) (by omega)] at z
            omega
        · rintro k M3 hk ⟨o3, l3, k3⟩ ih
          have B3 := B2.bs o3 (fun _ _ _ _ z => z)
          refine bk_219_40 ⟨fun z => ?_, fun _ => ⟨fun z => ?_, fun z => ?_⟩⟩
          · rw [B3.2.1, iz_le (by omega) (by omega) (by omega) (by omega)] at z
            omega
          · rw [iz_eq (by omega) (by omega) (by omega) (by omega)] at z
            have en : exN (j : Int) k ≤ k := by unfold exN; split <;> omega
            have e : exN (j : Int) (k + 1) = exN (j : Int) k + 1 := by
              unfold exN
              by_cases zz : 0 ≤ (j : Int) ∧ (j : Int) < (k : Int)
              · rw [if_pos (by omega), if_pos (by omega)]
                omega
              · rw [if_neg (by omega), if_neg (by omega)]
            have er : exR (j : Int) (exN (j : Int) k) = k := by
              unfold exR exN
              by_cases zz : 0 ≤ (j : Int) ∧ (j : Int) < (k : Int)
              · rw [if_pos zz, if_pos (by omega)]
                omega
              · rw [if_neg zz, if_neg (by omega)]
            rw [l3, iz_clN (by omega)]
            have z2 : (zw M3 10 0 30 (exN (j : Int) k) (iz (k : Int))).1 10 0 0 28 = iz ((exN (j : Int) k : Nat) : Int) := (zw_ne (by omega)).trans l3
            refine ⟨iz_inN (by omega) (by omega), ?_⟩
            rw [z2, iz_s, iz_s]
            refine ih _ ⟨(o3.w _ (by unfold oBs; omega)).w _ (by unfold oBs; omega), by rw [zw_eq, e], fun k' hk' => ?_⟩
            rw [zw_ne (by omega)]
            by_cases zz : k' = exN (j : Int) k
            · rw [zz, zw_eq, er]
            · rw [zw_ne (by omega)]
              exact k3 k' (by omega)
          · rw [iz_eq (by omega) (by omega) (by omega) (by omega)] at z
            have e : exN (j : Int) (k + 1) = exN (j : Int) k := by
              unfold exN
              rw [if_pos (by omega), if_neg (by omega)]
              omega
            rw [iz_s]
            exact ih M3 ⟨o3, by rw [e]; exact l3, by rw [e]; exact k3⟩
theorem r_truly {x y : Int32} (hW : rW M cnt SS) (ht0 : M.1 10 0 0 21 = iz (-1)) (h : ∀ M', Kp M M' → Q (some (zi (iz (fS cnt SS x (fun S => gTruly S y) (-1))))) M') : zEv Γ 220 [zo 10 0 0, zi x, zi y] M Q := by
  refine en_220 (bk_220_0 (r_isSale hW (fun q => ⟨_, rfl, fun _ => ?_, fun q' => absurd rfl q'⟩) (fun s M1 hs hx o1 hB => ⟨_, rfl, fun q' => absurd q' (by decide), fun _ => ?_⟩)))
  · have := h M (Kp.rf M)
    rw [fS_out q] at this
    exact this
  · have hS := (hW.2.2 s hs).2
    have h7 := hS.2.1
    have h6 := hS.1
    have o1 : Off rSc M M1 := o1.wk fun _ _ _ _ => rSl_sc
    have ht1 : M1.1 10 0 0 21 = iz (-1) := (o1.1 _ _ _ _ (by unfold rSc; omega)).trans ht0
    rw [fS_in hs hW.2.1 hx] at h
    unfold gTruly at h
    refine r_isBidder hS hB (fun q => ⟨_, rfl, fun q' => absurd rfl q', fun _ => ?_⟩) (fun i hi hy => ⟨_, rfl, fun _ => ?_, fun q' => absurd q' (by decide)⟩)
    · have h2 := h M1 (Kp.ofR o1)
      rw [if_neg (by omega)] at h2
      exact h2
    · subst hy
      rw [iz_toInt (by omega) (by omega), if_pos (by omega), show ((i : Int).toNat) = i by omega] at h
      unfold harm at h
      refine r_bestNow (tl := -1) (tg := 0) hS hB ⟨ht1, by omega, Or.inr rfl⟩ (fun M2 o2 R2 a2 r2 => ⟨rfl, ?_⟩)
      rw [wT_no] at a2 r2
      have B2 := hB.bs o2 (fun _ _ _ _ z => z)
      have T2 : rT M2 (-1) 0 := rT.bs ⟨ht1, by omega, Or.inr rfl⟩ o2 (fun _ _ _ _ z => z)
      refine r_bestPlace hS B2 r2 (by omega) ⟨_, rfl, ?_⟩
      cases hp : plA (SS s) (worS (SS s)) i with
      | none =>
        rw [hp] at h
        exact ⟨fun q => absurd q (by decide), fun _ => h M2 (Kp.ofB o1 o2)⟩
      | some p =>
        rw [hp] at h
        have hpl := plA_lt hp
        refine ⟨fun _ => r_worT hS B2 T2 (by omega) (show p < 6 by omega) ⟨_, rfl, r_allRows hS B2 (fun M3 o3 R3 => ⟨rfl, r_mostOf (k := i) hS (B2.bs o3 (fun _ _ _ _ z => z)) (T2.bs o3 (fun _ _ _ _ z => z)) R3 (Or.inr ⟨rfl, by omega⟩) (fun M4 o4 c4 => ⟨_, rfl, ?_⟩)⟩)⟩, fun q => ?_⟩
        · have h2 := h M4 (Kp.ofB o1 ((o2.tr o3).tr (o4.wk fun _ _ _ _ => oMs_bs)))
          have eg : gn i = 2 ^ i := by unfold gn; rw [if_neg (by omega)]
          rw [wT_no, a2, eg, iz_sub, iz_sub]
          exact h2
        · have q : ¬ iz 0 ≤ iz (p : Int) := q
          rw [iz_le (by omega) (by omega) (by omega) (by omega)] at q
          omega
theorem r_judged {x : Int32} (hW : rW M cnt SS) (ht0 : M.1 10 0 0 21 = iz (-1)) (h : ∀ M', Kp M M' → Q (some (zi (iz (fS cnt SS x gJudged (-1))))) M') : zEv Γ 222 [zo 10 0 0, zi x] M Q := by
  refine en_222 (bk_222_0 (r_isSale hW (fun q => ⟨_, rfl, fun q' => absurd rfl q', fun _ => ?_⟩) (fun s M1 hs hx o1 hB => ⟨_, rfl, fun _ => ?_, fun q' => absurd q' (by decide)⟩)))
  · have := h M (Kp.rf M)
    rw [fS_out q] at this
    exact this
  · have hS := (hW.2.2 s hs).2
    have h7 := hS.2.1
    have h6 := hS.1
    have o1 : Off rSc M M1 := o1.wk fun _ _ _ _ => rSl_sc
    have ht1 : M1.1 10 0 0 21 = iz (-1) := (o1.1 _ _ _ _ (by unfold rSc; omega)).trans ht0
    rw [fS_in hs hW.2.1 hx] at h
    unfold gJudged at h
    refine r_bestNow (tl := -1) (tg := 0) hS hB ⟨ht1, by omega, Or.inr rfl⟩ (fun M2 o2 R2 a2 r2 => ⟨rfl, ?_⟩)
    rw [wT_no] at a2 r2
    have B2 := hB.bs o2 (fun _ _ _ _ z => z)
    have T2 : rT M2 (-1) 0 := rT.bs ⟨ht1, by omega, Or.inr rfl⟩ o2 (fun _ _ _ _ z => z)
    have h := h M2 (Kp.ofB o1 o2)
    have ofp : ∀ {Q1 : zQ} (p : Nat), p < 6 → Q1 (some (zi (iz (SS s (227 + p))))) M2 → zEv Γ 177 [zo 10 0 0, zi (227 + iz (p : Int))] M2 Q1 := fun {Q1} p hp hq => r_of B2 (227 + p) (by omega) (by rw [show (227 : Int32) = iz 227 from rfl, iz_add]; exact congrArg iz (by omega)) hq
    have second : fnd (jud (SS s)) 0 (SS s 1).toNat = none → zGo Γ 222 Q 136 [some (zo 10 0 0), none, some (zi 0), none, none, none, none] [] M2 := by
      intro hn
      rw [hn] at h
      refine nloop (G := fun j => fnd (judE (SS s)) 0 (SS s 0).toNat = fnd (judE (SS s)) j ((SS s 0).toNat - j) → zGo Γ 222 Q 136 [some (zo 10 0 0), none, some (zi (iz (j : Int))), none, none, none, none] [] M2) (n := (SS s 0).toNat) (fun e => ?_) (fun j hj ih e => ?_) (SS s 0).toNat 0 (by omega) rfl
      · rw [Nat.sub_self] at e
        rw [e] at h
        refine bk_222_136 ⟨fun _ => h, fun q => ?_⟩
        rw [B2.2.1, iz_le (by omega) (by omega) (by omega) (by omega)] at q
        omega
      · have h2 := hS.2.2.2.2.2.2.2.2.2.2.2.2.2.2.1 j (by omega)
        have hrb := row_b hS (B := false) (W := worS (SS s)) j
        rw [show (SS s 0).toNat - j = ((SS s 0).toNat - (j + 1)) + 1 by omega, fnd_s j] at e
        refine bk_222_136 ⟨fun q => ?_, fun _ => ⟨iz_inN (by omega) (by omega), ?_⟩⟩
        · rw [B2.2.1, iz_le (by omega) (by omega) (by omega) (by omega)] at q
          omega
        rw [iz_clN (by omega), r2 j hj, iz_s]
        refine ⟨fun q => ih ?_, fun q => ofp j (by omega) ⟨_, rfl, ?_⟩⟩
        · rw [iz0, iz_le (by omega) (by omega) (by omega) (by omega)] at q
          rw [if_neg (by
            unfold judE
            rw [decide_eq_true_iff]
            rintro ⟨z, -⟩
            rw [z] at q
            simp [opI] at q)] at e
          exact e
        · rw [iz0, iz_le (by omega) (by omega) (by omega) (by omega)] at q
          have hno : rwA (SS s) false (worS (SS s)) j = none := by
            cases hr : rwA (SS s) false (worS (SS s)) j with
            | none => rfl
            | some k => rw [hr] at q; simp [opI] at q
          rw [iz0, iz_le (by omega) (by omega) (by omega) (by omega)]
          refine ⟨fun q2 => ih ?_, fun q2 => ?_⟩
          · rw [if_neg (by unfold judE; simp; omega)] at e
            exact e
          · rw [if_pos (by unfold judE; simp [hno]; omega)] at e
            rw [e] at h
            rw [show (100 : Int32) = iz 100 from rfl, iz_add]
            exact h
    refine nloop (G := fun i => fnd (jud (SS s)) 0 (SS s 1).toNat = fnd (jud (SS s)) i ((SS s 1).toNat - i) → zGo Γ 222 Q 16 [some (zo 10 0 0), none, some (zi (iz (i : Int))), none, none, none, none] [] M2) (n := (SS s 1).toNat) (fun e => ?_) (fun i hi ih e => ?_) (SS s 1).toNat 0 (by omega) rfl
    · rw [Nat.sub_self] at e
      refine bk_222_16 ⟨fun _ => second e, fun q => ?_⟩
      rw [B2.2.2.1, iz_le (by omega) (by omega) (by omega) (by omega)] at q
      omega
    · rw [show (SS s 1).toNat - i = ((SS s 1).toNat - (i + 1)) + 1 by omega, fnd_s i] at e
      have hh := hasA_b hS (i := i) (by omega)
      have loop : ∀ fl : Int, fl = (if hasA (SS s) i < 0 then 1 else 0) → zGo Γ 222 Q 71 [some (zo 10 0 0), none, some (zi (iz (i : Int))), none, some (zi (iz (hasA (SS s) i))), some (zi (iz fl)), some (zi 0)] [] M2 := by
        intro fl hfl
        rw [show fl = (if hasA (SS s) i < mstP (SS s) i 0 then 1 else 0) from hfl]
        refine nloop (G := fun k => zGo Γ 222 Q 71 [some (zo 10 0 0), none, some (zi (iz (i : Int))), none, some (zi (iz (hasA (SS s) i))), some (zi (iz (if hasA (SS s) i < mstP (SS s) i k then 1 else 0))), some (zi (iz (k : Int)))] [] M2) (n := (SS s 0).toNat) ?_ (fun k hk ihk => ?_) (SS s 0).toNat 0 (by omega)
        · refine bk_222_71 ⟨fun _ => ?_, fun q => ?_⟩
          · by_cases z : hasA (SS s) i < mstP (SS s) i (SS s 0).toNat
            · rw [if_pos z]
              rw [if_pos (by unfold jud; simpa using z)] at e
              rw [e] at h
              exact ⟨fun q => absurd q (by decide), fun _ => h⟩
            · rw [if_neg z]
              rw [if_neg (by unfold jud; simpa using z)] at e
              refine ⟨fun _ => ?_, fun q => absurd rfl q⟩
              rw [iz_s]
              exact ih e
          · rw [B2.2.1, iz_le (by omega) (by omega) (by omega) (by omega)] at q
            omega
        · have h1 := worS_b hS (i := i) (by omega) (show k < 6 by omega)
          have h2 := hS.2.2.2.2.2.2.2.2.2.2.2.2.2.2.1 k (by omega)
          have em : mstP (SS s) i (k + 1) = max (mstP (SS s) i k) (worS (SS s) i k - SS s (227 + k)) := rfl
          rw [em] at ihk
          refine bk_222_71 ⟨fun q => ?_, fun _ => ?_⟩
          · rw [B2.2.1, iz_le (by omega) (by omega) (by omega) (by omega)] at q
            omega
          by_cases z : hasA (SS s) i < mstP (SS s) i k
          · rw [if_pos z]
            rw [if_pos (by omega)] at ihk
            rw [iz_s]
            exact ⟨fun _ => ihk, fun q => absurd q (by decide)⟩
          · rw [if_neg z]
            refine ⟨fun q => absurd rfl q, fun _ => r_worT hS B2 T2 (by omega) (by omega) ⟨_, rfl, ofp k (by omega) ⟨_, rfl, ?_⟩⟩⟩
            rw [wT_no, iz_sub, iz_le (by omega) (by omega) (by omega) (by omega), iz_s]
            refine ⟨fun q => ?_, fun q => ?_⟩
            · rw [if_neg (by omega)] at ihk
              exact ihk
            · rw [if_pos (by omega)] at ihk
              exact ihk
      refine bk_222_16 ⟨fun q => ?_, fun _ => r_bestPlace hS B2 r2 (by omega) ⟨_, rfl, ?_⟩⟩
      · rw [B2.2.2.1, iz_le (by omega) (by omega) (by omega) (by omega)] at q
        omega
      cases hp : plA (SS s) (worS (SS s)) i with
      | none =>
        have eh : hasA (SS s) i = 0 := by unfold hasA; rw [hp]
        refine ⟨fun q => absurd q (by decide), fun _ => ⟨fun _ => ?_, fun q => absurd (by decide) q⟩⟩
        have := loop 0 (by rw [if_neg (by omega)])
        rw [eh] at this
        exact this
      | some p =>
        have hpl := plA_lt hp
        have eh : hasA (SS s) i = worS (SS s) i p - SS s (227 + p) := by unfold hasA; rw [hp]
        refine ⟨fun _ => r_worT hS B2 T2 (by omega) (show p < 6 by omega) ⟨_, rfl, ofp p (by omega) ⟨_, rfl, ?_⟩⟩, fun q => ?_⟩
        · rw [wT_no, iz_sub, ← eh, iz0, iz_le (by omega) (by omega) (by omega) (by omega)]
          exact ⟨fun q => loop 0 (by rw [if_neg (by omega)]), fun q => loop 1 (by rw [if_pos (by omega)])⟩
        · have q : ¬ iz 0 ≤ iz (p : Int) := q
          rw [iz_le (by omega) (by omega) (by omega) (by omega)] at q
          omega
theorem Kp.tl {M1 M2 : zM} {a c : Int32} (ht0 : M.1 10 0 0 21 = iz (-1)) (h1 : Off rSc M M1) (h2 : Off oBs (zw (zw M1 10 0 0 21 a) 10 0 0 22 c) M2) : Kp M (zw M2 10 0 0 21 (-1)) := by
  have key : ∀ c' t' f' i', ¬ rSc c' t' f' i' → (zw M2 10 0 0 21 (-1)).1 c' t' f' i' = M.1 c' t' f' i' := by
    intro c' t' f' i' hn
    by_cases e : c' = 10 ∧ t' = 0 ∧ f' = 0 ∧ i' = 21
    · obtain ⟨rfl, rfl, rfl, rfl⟩ := e
      rw [zw_eq, ht0]
      rfl
    · rw [zw_ne e, h2.1 _ _ _ _ (fun z => hn (oBs_sc z)), zw_ne (by unfold rSc at hn; omega), zw_ne e, h1.1 _ _ _ _ hn]
  refine ⟨fun c t f i hp => key c t f i (by unfold Pst at hp; unfold rSc; omega), fun hI t ht => ⟨(key _ _ _ _ (by unfold rSc; omega)).trans (hI t ht).1, fun k k1 k2 => (key _ _ _ _ (by unfold rSc; omega)).trans ((hI t ht).2 k k1 k2)⟩⟩
theorem r_tells {x y v m : Int32} (hW : rW M cnt SS) (ht0 : M.1 10 0 0 21 = iz (-1)) (h : ∀ M', Kp M M' → Q (some (zi (iz (fS cnt SS x (fun S => gTells S y v m) (-100000))))) M') : zEv Γ 244 [zo 10 0 0, zi x, zi y, zi v, zi m] M Q := by
  refine en_244 (bk_244_0 (r_isSale hW (fun q => ⟨_, rfl, fun _ => ?_, fun q' => absurd rfl q'⟩) (fun s M1 hs hx o1 hB => ⟨_, rfl, fun q' => absurd q' (by decide), fun _ => ?_⟩)))
  · have := h M (Kp.rf M)
    rw [fS_out q] at this
    exact this
  · have hS := (hW.2.2 s hs).2
    have h7 := hS.2.1
    have h6 := hS.1
    have o1 : Off rSc M M1 := o1.wk fun _ _ _ _ => rSl_sc
    rw [fS_in hs hW.2.1 hx] at h
    unfold gTells at h
    obtain ⟨a, ha1, ha2, rfl⟩ := iz_ex v
    have bad : ¬ ((0 ≤ y.toInt ∧ y.toInt < SS s 1) ∧ 0 ≤ (iz a).toInt ∧ (iz a).toInt ≤ 99) → Q (some (zi (-100000))) M1 := fun q => by
      have h2 := h M1 (Kp.ofR o1)
      rw [if_neg q] at h2
      exact h2
    refine r_isBidder hS hB (fun q => ⟨_, rfl, fun _ => bad (by omega), fun q' => absurd rfl q'⟩) (fun i hi hy => ⟨_, rfl, fun q' => absurd q' (by decide), fun _ => ?_⟩)
    refine r_isIn (lo := 0) (hi := 99) (by omega) (by omega) (by omega) (fun q3 q4 => ⟨_, rfl, fun _ => ?_, fun q' => absurd q' (by decide)⟩) (fun q3 => ⟨_, rfl, fun q' => absurd rfl q', fun _ => bad (by rw [iz_toInt ha1 ha2]; omega)⟩)
    subst hy
    rw [iz_toInt (by omega) (by omega), iz_toInt (by omega) (by omega), if_pos (by omega), show ((i : Int).toNat) = i by omega] at h
    have B2 : rB (zw (zw M1 10 0 0 21 (iz (i : Int))) 10 0 0 22 (iz a)) (510 + 260 * s) (SS s) := (hB.w (by omega) (by omega)).w (by omega) (by omega)
    have T2 : rT (zw (zw M1 10 0 0 21 (iz (i : Int))) 10 0 0 22 (iz a)) (i : Int) a := ⟨by rw [zw_ne (by omega), zw_eq], by omega, Or.inl ⟨zw_eq, by omega, by omega⟩⟩
    refine r_bestNow hS B2 T2 (fun M3 o3 R3 a3 r3 => ⟨rfl, ?_⟩)
    have B3 := B2.bs o3 (fun _ _ _ _ z => z)
    have T3 := T2.bs o3 (fun _ _ _ _ z => z)
    have eg : gn i = 2 ^ i := by unfold gn; rw [if_neg (by omega)]
    refine r_bestPlace hS B3 r3 (by omega) ⟨_, rfl, ?_⟩
    have mst : ∀ {Q1 : zQ}, (∀ M5, Off oBs M3 M5 → Q1 (some (zi (iz (mvG (SS s) (wT (SS s) (i : Int) a) i)))) M5) → zEv Γ 214 [zo 10 0 0] M3 (fun o M7 => o = none ∧ zEv Γ 215 [zo 10 0 0, zi (iz (i : Int))] M7 Q1) := fun {Q1} hq => r_allRows hS B3 (fun M4 o4 R4 => ⟨rfl, r_mostOf (k := i) hS (B3.bs o4 (fun _ _ _ _ z => z)) (T3.bs o4 (fun _ _ _ _ z => z)) R4 (Or.inr ⟨rfl, by omega⟩) (fun M5 o5 c5 => by
      have := hq M5 (o4.tr (o5.wk fun _ _ _ _ => oMs_bs))
      rw [eg]
      exact this)⟩)
    cases hp : plA (SS s) (wT (SS s) (i : Int) a) i with
    | none =>
      refine ⟨fun q => absurd q (by decide), fun _ => mst (fun M5 o5 => ⟨_, rfl, fun q => ⟨fun q2 => absurd q2 (by decide), fun _ => ?_⟩, fun q => ?_⟩)⟩
      · have h2 := h _ (Kp.tl ht0 o1 (o3.tr o5))
        rw [hp] at h2
        simp only [if_pos q] at h2
        exact h2
      · have h2 := h _ (Kp.tl ht0 o1 (o3.tr o5))
        rw [hp] at h2
        simp only [if_neg q] at h2
        exact h2
    | some p =>
      have hpl := plA_lt hp
      have hh : harm (SS s) (wT (SS s) (i : Int) a) i = mvG (SS s) (wT (SS s) (i : Int) a) i - (mvA (SS s) false (wT (SS s) (i : Int) a) - wT (SS s) (i : Int) a i p) := by unfold harm; rw [hp]
      have hneg : ¬ ¬ (0 : Int32) ≤ iz (opI (some p)) := fun q => by
        have q : ¬ iz 0 ≤ iz (p : Int) := q
        rw [iz_le (by omega) (by omega) (by omega) (by omega)] at q
        omega
      refine ⟨fun _ => r_worT hS B3 T3 (by omega) (show p < 6 by omega) ⟨_, rfl, mst (fun M5 o5 => ⟨_, rfl, fun q => ⟨fun _ => ?_, fun q2 => absurd q2 hneg⟩, fun q => ?_⟩)⟩, fun q => absurd q hneg⟩
      · have B6 : rB (zw M5 10 0 0 21 (-1)) (510 + 260 * s) (SS s) := (B3.bs o5 (fun _ _ _ _ z => z)).w (by omega) (by omega)
        refine r_worT (tl := -1) (tg := 0) hS B6 ⟨zw_eq, by omega, Or.inr rfl⟩ (by omega) (show p < 6 by omega) ⟨_, rfl, ?_⟩
        have h2 := h _ (Kp.tl ht0 o1 (o3.tr o5))
        rw [hp] at h2
        simp only [if_pos q] at h2
        rw [hh] at h2
        rw [wT_no, a3, iz_sub, iz_sub, iz_sub]
        exact h2
      · have h2 := h _ (Kp.tl ht0 o1 (o3.tr o5))
        rw [hp] at h2
        simp only [if_neg q] at h2
        exact h2
end Z62
