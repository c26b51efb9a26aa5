/-! the reference reads: its small steps, as functions -/
abbrev RP : Type := Bool × Nat × Int × Int
def alS (ρ : RP) (kd at_ : Int) : RP := if ρ.1 = true ∨ (ρ.2.2.1 ≠ 0 ∧ (ρ.2.2.2 < at_ ∨ (ρ.2.2.2 = at_ ∧ ρ.2.2.1 ≤ kd))) then ρ else (ρ.1, ρ.2.1, kd, at_)
def edS (tp : Nat → Int) (n : Nat) (ρ : RP) : RP := if ρ.1 = true then ρ else (true, ρ.2.1, 1, ((tkW tp n ρ.2.1 : Nat) : Int))
def nxS (ρ : RP) : RP := (ρ.1, ρ.2.1 + 1, ρ.2.2)
def nuS (tp : Nat → Int) (n : Nat) (ρ : RP) (lo hi : Int) : RP × Bool × Int := if ρ.1 = true ∨ tkK tp n ρ.2.1 ≠ 1 then (edS tp n ρ, false, lo) else if lo ≤ tkN tp n ρ.2.1 ∧ tkN tp n ρ.2.1 ≤ hi then (nxS ρ, true, tkN tp n ρ.2.1) else (nxS (alS ρ 2 ((tkW tp n ρ.2.1 : Nat) : Int)), false, lo)
def rSt (M : zM) (tp : Nat → Int) (n : Nat) (ρ : RP) : Prop := rTp M tp n ∧ M.1 10 0 0 8 = iz (if ρ.1 = true then 1 else 0) ∧ (M.1 10 0 1 2 = iz ρ.2.2.1 ∧ 0 ≤ ρ.2.2.1 ∧ ρ.2.2.1 ≤ 5) ∧ (M.1 10 0 1 3 = iz ρ.2.2.2 ∧ -1 ≤ ρ.2.2.2 ∧ ρ.2.2.2 ≤ 500) ∧ (ρ.1 = false → rTo M tp n ρ.2.1)
def oEn (c t f i : Nat) : Prop := c = 10 ∧ t = 0 ∧ (f = 0 ∧ i = 8 ∨ f = 1 ∧ (i = 2 ∨ i = 3))
def oRd (c t f i : Nat) : Prop := c = 10 ∧ t = 0 ∧ (f = 0 ∧ (3 ≤ i ∧ i ≤ 8 ∨ i = 11) ∨ f = 1 ∧ (i = 2 ∨ i = 3))
theorem tkN_b {tp : Nat → Int} {n k : Nat} (hb : ∀ p, p < n → 0 ≤ tp p ∧ tp p ≤ 255) : 0 ≤ tkN tp n k ∧ tkN tp n k ≤ 9999 := by
  unfold tkN
  split
  · next h1 =>
    have hs := tkW_le (tp := tp) (n := n) (k := k)
    have hk1 : kc tp n (tkW tp n k) = 1 := by
      have hw := wcode_b (wl tp (tkW tp n k) (tkP tp n (k + 1) - tkW tp n k))
      rcases kc_c tp n (tkW tp n k) with e | e | e | e | e | e
      · rw [tkK_5 e] at h1
        omega
      · exact e
      · rw [tkK_z e] at h1
        omega
      · rw [tkK_2 e] at h1
        omega
      · exact absurd e hs.2.2.2
      · rw [tkK_3 e] at h1
        omega
    have hl : tkP tp n (k + 1) - tkW tp n k ≤ 4 := by
      rw [tkK_1 hk1] at h1
      apply Classical.byContradiction
      intro z
      rw [if_pos (by omega)] at h1
      omega
    have ee : tkP tp n (k + 1) = rnF tp n 1 (tkW tp n k) := by
      show tkE tp n (tkW tp n k) = _
      unfold tkE
      rw [if_pos (Or.inr hk1), hk1]
    have rn := rnF_ok (tp := tp) (k := 1) (by omega) hs.2.1
    rw [← ee] at rn
    have := nvT_b (tp := tp) (w := tkW tp n k) _ hl (fun i hi => by
      have kk := rn.2.2.1 (tkW tp n k + i) (by omega) (by omega)
      have hin : tkW tp n k + i < n := by omega
      have c2 := (ck_bt (tp := tp) (n := n) (p := tkW tp n k + i) (hb _)).2.1.mp kk
      unfold btA at c2
      rw [if_pos hin] at c2
      exact c2)
    have hp : (10 : Int) ^ (tkP tp n (k + 1) - tkW tp n k) ≤ 10 ^ 4 := by
      rcases (by omega : tkP tp n (k + 1) - tkW tp n k = 0 ∨ tkP tp n (k + 1) - tkW tp n k = 1 ∨ tkP tp n (k + 1) - tkW tp n k = 2 ∨ tkP tp n (k + 1) - tkW tp n k = 3 ∨ tkP tp n (k + 1) - tkW tp n k = 4) with e | e | e | e | e <;> rw [e] <;> decide
    have h4 : (10 : Int) ^ 4 = 10000 := by decide
    omega
  · omega
section Z87
variable {Γ : zC} {Q : zQ} {M : zM} {tp : Nat → Int} {n : Nat} {ρ : RP}
theorem rTo.off {P : Nat → Nat → Nat → Nat → Prop} {M M' : zM} {k : Nat} (h : rTo M tp n k) (ho : Off P M M') (hP : ∀ i, 3 ≤ i → i ≤ 7 → ¬ P 10 0 0 i) : rTo M' tp n k := ⟨(ho.1 _ _ _ _ (hP 4 (by omega) (by omega))).trans h.1, (ho.1 _ _ _ _ (hP 5 (by omega) (by omega))).trans h.2.1, fun z => (ho.1 _ _ _ _ (hP 6 (by omega) (by omega))).trans (h.2.2.1 z), fun z => (ho.1 _ _ _ _ (hP 7 (by omega) (by omega))).trans (h.2.2.2.1 z), (ho.1 _ _ _ _ (hP 3 (by omega) (by omega))).trans h.2.2.2.2⟩
theorem rSt.off {P : Nat → Nat → Nat → Nat → Prop} {M M' : zM} (h : rSt M tp n ρ) (ho : Off P M M') (h0 : ∀ i, 2 ≤ i → i ≤ 8 → ¬ P 10 0 0 i) (h1 : ∀ i, i ≠ 0 → i ≠ 1 → i < 510 → ¬ P 10 0 1 i) : rSt M' tp n ρ := ⟨h.1.off ho (h0 2 (by omega) (by omega)) (fun p hp => h1 _ (by omega) (by omega) (by omega)), (ho.1 _ _ _ _ (h0 8 (by omega) (by omega))).trans h.2.1, ⟨(ho.1 _ _ _ _ (h1 2 (by omega) (by omega) (by omega))).trans h.2.2.1.1, h.2.2.1.2⟩, ⟨(ho.1 _ _ _ _ (h1 3 (by omega) (by omega) (by omega))).trans h.2.2.2.1.1, h.2.2.2.1.2⟩, fun z => (h.2.2.2.2 z).off ho (fun i i1 i2 => h0 i (by omega) (by omega))⟩
theorem r_ends (hR : rSt M tp n ρ) (h : ∀ M', Off oEn M M' → rSt M' tp n (edS tp n ρ) → Q none M') : zEv Γ 165 [zo 10 0 0] M Q := by
  obtain ⟨hT, hw, hf, hp, ht⟩ := hR
  have hs := tkW_le (tp := tp) (n := n) (k := ρ.2.1)
  have hn := hT.2.1
  refine en_165 (bk_165_0 ?_)
  rw [hw]
  cases hb : ρ.1 with
  | true =>
    have e : edS tp n ρ = ρ := by unfold edS; rw [if_pos hb]
    refine ⟨fun q => absurd q (by decide), fun _ => h M (Off.rf M) ?_⟩
    rw [e]
    exact ⟨hT, hw, hf, hp, ht⟩
  | false =>
    have e : edS tp n ρ = (true, ρ.2.1, 1, ((tkW tp n ρ.2.1 : Nat) : Int)) := by unfold edS; rw [if_neg (by rw [hb]; simp)]
    have t0 := ht hb
    refine ⟨fun _ => ⟨Or.inr rfl, by unfold vp_in; decide, by unfold vp_in; decide, ?_⟩, fun q => absurd rfl q⟩
    have w4 : (zw (zw M 10 0 0 8 1) 10 0 1 (2 : Int32).toNatClampNeg 1).1 10 0 0 4 = iz ((tkW tp n ρ.2.1 : Nat) : Int) := ((zw_ne (by omega)).trans (zw_ne (by omega))).trans t0.1
    rw [w4]
    have ho : Off oEn M (zw (zw (zw M 10 0 0 8 1) 10 0 1 2 1) 10 0 1 3 (iz ((tkW tp n ρ.2.1 : Nat) : Int))) := (((Off.rf M).w _ (by unfold oEn; omega)).w _ (by unfold oEn; omega)).w _ (by unfold oEn; omega)
    refine h _ ho ?_
    rw [e]
    refine ⟨hT.off ho (by unfold oEn; omega) (by unfold oEn; intro p _; omega), ?_, ⟨?_, by simp⟩, ⟨zw_eq, ?_⟩, fun z => by cases z⟩
    · show (zw (zw (zw M 10 0 0 8 1) 10 0 1 2 1) 10 0 1 3 (iz ((tkW tp n ρ.2.1 : Nat) : Int))).1 10 0 0 8 = _
      rw [zw_ne (by omega), zw_ne (by omega), zw_eq]
      rfl
    · show (zw (zw (zw M 10 0 0 8 1) 10 0 1 2 1) 10 0 1 3 (iz ((tkW tp n ρ.2.1 : Nat) : Int))).1 10 0 1 2 = _
      rw [zw_ne (by omega), zw_eq]
      rfl
    · simp only
      omega
theorem r_also {kd at_ : Int} (hR : rSt M tp n ρ) (hk : 0 ≤ kd ∧ kd ≤ 5) (ha : -1 ≤ at_ ∧ at_ ≤ 500) (h : ∀ M', Off oEn M M' → rSt M' tp n (alS ρ kd at_) → Q none M') : zEv Γ 166 [zo 10 0 0, zi (iz kd), zi (iz at_)] M Q := by
  obtain ⟨hT, hw, hf, hp, ht⟩ := hR
  have keep : (ρ.1 = true ∨ (ρ.2.2.1 ≠ 0 ∧ (ρ.2.2.2 < at_ ∨ (ρ.2.2.2 = at_ ∧ ρ.2.2.1 ≤ kd)))) → Q none M := fun z => by
    have e : alS ρ kd at_ = ρ := by unfold alS; rw [if_pos z]
    refine h M (Off.rf M) ?_
    rw [e]
    exact ⟨hT, hw, hf, hp, ht⟩
  have put : ¬ (ρ.1 = true ∨ (ρ.2.2.1 ≠ 0 ∧ (ρ.2.2.2 < at_ ∨ (ρ.2.2.2 = at_ ∧ ρ.2.2.1 ≤ kd)))) → vp_in 2 5160 ∧ vp_in 3 5160 ∧ Q none (zw (zw M 10 0 1 (2 : Int32).toNatClampNeg (iz kd)) 10 0 1 (3 : Int32).toNatClampNeg (iz at_)) := fun z => by
    have e : alS ρ kd at_ = (ρ.1, ρ.2.1, kd, at_) := by unfold alS; rw [if_neg z]
    have ho : Off oEn M (zw (zw M 10 0 1 2 (iz kd)) 10 0 1 3 (iz at_)) := ((Off.rf M).w _ (by unfold oEn; omega)).w _ (by unfold oEn; omega)
    refine ⟨by unfold vp_in; decide, by unfold vp_in; decide, h _ ho ?_⟩
    rw [e]
    refine ⟨hT.off ho (by unfold oEn; omega) (by unfold oEn; intro p _; omega), ?_, ⟨?_, hk⟩, ⟨zw_eq, ha⟩, fun z => ?_⟩
    · show (zw (zw M 10 0 1 2 (iz kd)) 10 0 1 3 (iz at_)).1 10 0 0 8 = _
      rw [zw_ne (by omega), zw_ne (by omega), hw]
    · show (zw (zw M 10 0 1 2 (iz kd)) 10 0 1 3 (iz at_)).1 10 0 1 2 = _
      rw [zw_ne (by omega), zw_eq]
    · have ho1 : Off (fun c t f _ => c = 10 ∧ t = 0 ∧ f = 1) M (zw (zw M 10 0 1 2 (iz kd)) 10 0 1 3 (iz at_)) := ((Off.rf M).w _ ⟨rfl, rfl, rfl⟩).w _ ⟨rfl, rfl, rfl⟩
      exact (ht z).off ho1 (by intro i _ _; omega)
  have i2 : vp_in 2 5160 := by unfold vp_in; decide
  have i3 : vp_in 3 5160 := by unfold vp_in; decide
  have e2 : M.1 10 0 1 (2 : Int32).toNatClampNeg = iz ρ.2.2.1 := hf.1
  have e3 : M.1 10 0 1 (3 : Int32).toNatClampNeg = iz ρ.2.2.2 := hp.1
  refine en_166 (bk_166_0 ?_)
  rw [hw, e2, e3, show (iz ρ.2.2.1 = 0) = (ρ.2.2.1 = 0) by rw [iz0, iz_eq (by omega) (by omega) (by omega) (by omega)], iz_lt (by omega) (by omega) (by omega) (by omega), iz_eq (by omega) (by omega) (by omega) (by omega), iz_lt (by omega) (by omega) (by omega) (by omega)]
  cases hb : ρ.1 with
  | true => exact ⟨fun _ => keep (Or.inl hb), fun q => absurd q (by decide)⟩
  | false =>
    have nb : ¬ ρ.1 = true := by rw [hb]; simp
    refine ⟨fun q => absurd rfl q, fun _ => ⟨i2, fun q => put (fun z => z.elim nb (fun z => z.1 q)), fun q => ⟨i3, fun q2 => keep (Or.inr ⟨q, Or.inl q2⟩), fun q2 => ⟨i3, fun q3 => put (fun z => z.elim nb (fun z => by rcases z.2 with y | y <;> omega)), fun q3 => ⟨i2, fun q4 => put (fun z => z.elim nb (fun z => by rcases z.2 with y | y <;> omega)), fun q4 => keep (Or.inr ⟨q, Or.inr ⟨q3, by omega⟩⟩)⟩⟩⟩⟩⟩
theorem r_numbered {lo hi : Int} (hR : rSt M tp n ρ) (hlo : 0 ≤ lo ∧ lo ≤ 10) (hhi : -1 ≤ hi ∧ hi ≤ 9999) (h : ∀ M', Off oRd M M' → rSt M' tp n (nuS tp n ρ lo hi).1 → M'.1 10 0 0 11 = iz (if (nuS tp n ρ lo hi).2.1 = true then 1 else 0) → Q (some (zi (iz (nuS tp n ρ lo hi).2.2))) M') : zEv Γ 167 [zo 10 0 0, zi (iz lo), zi (iz hi)] M Q := by
  have hb255 : ∀ p, p < n → 0 ≤ tp p ∧ tp p ≤ 255 := fun p hp => (hR.1.2.2 p hp).2
  have hs := tkW_le (tp := tp) (n := n) (k := ρ.2.1)
  have hn := hR.1.2.1
  have hnb := tkN_b (tp := tp) (n := n) (k := ρ.2.1) hb255
  have ow : ∀ v : Int32, Off oRd M (zw M 10 0 0 11 v) := fun v => (Off.rf M).w _ (by unfold oRd; omega)
  have R1 : ∀ {M2 : zM} {ρ2 : RP} (v : Int32), rSt M2 tp n ρ2 → rSt (zw M2 10 0 0 11 v) tp n ρ2 := fun v hr => hr.off (P := fun c t f i => c = 10 ∧ t = 0 ∧ f = 0 ∧ i = 11) ((Off.rf _).w _ ⟨rfl, rfl, rfl, rfl⟩) (by intro i _ _; omega) (by intro i _ _ _; omega)
  have g8 : (zw M 10 0 0 11 0).1 10 0 0 8 = iz (if ρ.1 = true then 1 else 0) := (zw_ne (by omega)).trans hR.2.1
  unfold nuS at h
  refine en_167 (bk_167_0 ⟨Or.inl rfl, ?_⟩)
  rw [g8]
  have bad : (ρ.1 = true ∨ tkK tp n ρ.2.1 ≠ 1) → zEv Γ 165 [zo 10 0 0] (zw M 10 0 0 11 0) (fun o M1 => o = none ∧ Q (some (zi (iz lo))) M1) := fun z => by
    refine r_ends (R1 0 hR) (fun M1 o1 r1 => ⟨rfl, ?_⟩)
    rw [if_pos z] at h
    exact h M1 ((ow 0).tr (o1.wk (by unfold oEn oRd; intro c t f i; omega))) r1 ((o1.1 _ _ _ _ (by unfold oEn; omega)).trans zw_eq)
  cases hw : ρ.1 with
  | true => exact ⟨fun _ => bad (Or.inl hw), fun q => absurd q (by decide)⟩
  | false =>
    have T0 := hR.2.2.2.2 hw
    have t5 : (zw M 10 0 0 11 0).1 10 0 0 5 = iz (rtk (tkK tp n ρ.2.1)) := (zw_ne (by omega)).trans T0.2.1
    have kb := tkK_b (tp := tp) (n := n) (k := ρ.2.1)
    have rb : -1 ≤ rtk (tkK tp n ρ.2.1) ∧ rtk (tkK tp n ρ.2.1) ≤ 4 ∧ (rtk (tkK tp n ρ.2.1) = 1 ↔ tkK tp n ρ.2.1 = 1) := by
      unfold rtk
      split
      · omega
      · split <;> omega
    refine ⟨fun q => absurd rfl q, fun _ => ?_⟩
    rw [t5, show (iz (rtk (tkK tp n ρ.2.1)) = 1) = (rtk (tkK tp n ρ.2.1) = 1) by rw [iz1, iz_eq (by omega) (by omega) (by omega) (by omega)], rb.2.2]
    refine ⟨fun k1 => ?_, fun k1 => bad (Or.inr k1)⟩
    rw [if_neg (by rw [hw]; simp [k1])] at h
    have t6 : (zw M 10 0 0 11 0).1 10 0 0 6 = iz (tkN tp n ρ.2.1) := (zw_ne (by omega)).trans (T0.2.2.1 k1)
    rw [t6]
    have z11 : ∀ v : Int32, (zw (zw M 10 0 0 11 0) 10 0 0 11 v).1 10 0 0 11 = v := fun v => zw_eq
    refine r_isIn (by omega) (by omega) (by omega) (fun q1 q2 => ⟨_, rfl, Or.inr rfl, ?_⟩) (fun q => ⟨_, rfl, Or.inl rfl, ?_⟩)
    · rw [if_pos ⟨q1, q2⟩] at h
      rw [z11]
      refine ⟨fun _ => ?_, fun z => absurd z (by decide)⟩
      have R2 := R1 1 (R1 0 hR)
      refine r_advance (k := ρ.2.1 + 1) R2.1 (R2.2.2.2.2 hw).2.2.2.2 (fun M3 o3 t3 => ⟨rfl, ?_⟩)
      have g3 : M3.1 10 0 0 11 = 1 := (o3.1 _ _ _ _ (by unfold oAd; omega)).trans zw_eq
      have hR3 : rSt M3 tp n (nxS ρ) := ⟨R2.1.off o3 (by unfold oAd; omega) (by unfold oAd; intro p _; omega), (o3.1 _ _ _ _ (by unfold oAd; omega)).trans R2.2.1, ⟨(o3.1 _ _ _ _ (by unfold oAd; omega)).trans R2.2.2.1.1, R2.2.2.1.2⟩, ⟨(o3.1 _ _ _ _ (by unfold oAd; omega)).trans R2.2.2.2.1.1, R2.2.2.2.1.2⟩, fun _ => t3⟩
      rw [g3]
      refine ⟨fun z => absurd z (by decide), fun _ => ?_⟩
      exact h M3 (((ow 0).w _ (by unfold oRd; omega)).tr (o3.wk (by unfold oAd oRd; intro c t f i; omega))) hR3 g3
    · rw [if_neg (by omega)] at h
      rw [z11]
      refine ⟨fun z => absurd rfl z, fun _ => ?_⟩
      have R2 := R1 0 (R1 0 hR)
      have t4 : (zw (zw M 10 0 0 11 0) 10 0 0 11 0).1 10 0 0 4 = iz ((tkW tp n ρ.2.1 : Nat) : Int) := ((zw_ne (by omega)).trans (zw_ne (by omega))).trans T0.1
      rw [t4]
      refine r_also (kd := 2) R2 (by omega) (by omega) (fun M3 o3 R3 => ⟨rfl, ?_⟩)
      have ek : (alS ρ 2 ((tkW tp n ρ.2.1 : Nat) : Int)).1 = ρ.1 ∧ (alS ρ 2 ((tkW tp n ρ.2.1 : Nat) : Int)).2.1 = ρ.2.1 := by
        unfold alS
        split <;> exact ⟨rfl, rfl⟩
      have x3 := (R3.2.2.2.2 (by rw [ek.1]; exact hw)).2.2.2.2
      rw [ek.2] at x3
      refine r_advance (k := ρ.2.1 + 1) R3.1 x3 (fun M4 o4 t4 => ⟨rfl, ?_⟩)
      have g4 : M4.1 10 0 0 11 = 0 := ((o4.1 _ _ _ _ (by unfold oAd; omega)).trans (o3.1 _ _ _ _ (by unfold oEn; omega))).trans zw_eq
      have hR4 : rSt M4 tp n (nxS (alS ρ 2 ((tkW tp n ρ.2.1 : Nat) : Int))) := ⟨R3.1.off o4 (by unfold oAd; omega) (by unfold oAd; intro p _; omega), (o4.1 _ _ _ _ (by unfold oAd; omega)).trans R3.2.1, ⟨(o4.1 _ _ _ _ (by unfold oAd; omega)).trans R3.2.2.1.1, R3.2.2.1.2⟩, ⟨(o4.1 _ _ _ _ (by unfold oAd; omega)).trans R3.2.2.2.1.1, R3.2.2.2.1.2⟩, fun _ => by
        show rTo M4 tp n ((alS ρ 2 ((tkW tp n ρ.2.1 : Nat) : Int)).2.1 + 1)
        rw [ek.2]
        exact t4⟩
      rw [g4]
      refine ⟨fun _ => ?_, fun z => absurd rfl z⟩
      exact h M4 ((((ow 0).w _ (by unfold oRd; omega)).tr (o3.wk (by unfold oEn oRd; intro c t f i; omega))).tr (o4.wk (by unfold oAd oRd; intro c t f i; omega))) hR4 g4
end Z87
