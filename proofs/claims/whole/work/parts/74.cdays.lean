/-! purses: the class -/
def oPu (c t _f _i : Nat) : Prop := (c = 4 ∧ t = 0) ∨ (c = 2 ∧ t = 3)
def cEn (M : zM) (en : Nat → Int) : Prop := ∀ i, i < 7 → M.1 4 0 3 i = iz (en i)
def cPu (M : zM) (pu : Nat → Int) : Prop := ∀ i, i < 7 → M.1 4 0 2 i = iz (pu i)
theorem Kp.ofP {M M' : zM} (h : Off oPu M M') (hi : lI M' 3) : Kp M M' := ⟨fun c t f i hp => h.1 _ _ _ _ (by unfold Pst at hp; unfold oPu; omega), fun hI t ht => by
  by_cases e : t = 3
  · rw [e]
    exact hi
  · exact (hI t ht).off h (by unfold oPu; intro f i; omega)⟩
section Z74
variable {Γ : zC} {Q : zQ} {M : zM} {ts cnt : Nat} {S : SB} {SS : Nat → SB} {pu en : Nat → Int}
theorem c_lineUpLeft (hS : SOK S) (hC : cS M ts S) (hI : lI M 3) (hen : cEn M en) (heb : ∀ i, en i = -1 ∨ (1 ≤ en i ∧ en i ≤ 60)) (h : ∀ M', Off (cLn 3) M M' → cL M' 3 S (S 3) (bdS S) (mkS S) (lnE S en) → Q none M') : zEv Γ 62 [zo 4 0 0, zo 7 ts 0] M Q := by
  have h7 := hS.2.1
  have hr := rngS hS
  refine en_62 (bk_62_0 ?_)
  rw [hC.1 3 (by omega)]
  refine c_open hS hC hI (fun M1 o1 L1 => ⟨rfl, ?_⟩)
  refine zloop (P := fun i M2 => Off (cLn 3) M M2 ∧ cL M2 3 S (S 3) (bdS S) (mkS S) (lin (bdS S) (mkS S) (exE en) (S 3) i)) (G := fun i M2 => zGo Γ 62 Q 14 [some (zo 4 0 0), some (zo 7 ts 0), some (zi (iz (i : Int)))] [] M2) (n := (S 1).toNat) ?_ ?_ (S 1).toNat 0 M1 (by omega) ⟨o1, L1 _ _⟩
  · rintro M2 ⟨o2, L2⟩
    have C2 := hC.off o2 (by unfold cLn; intro f i; omega)
    refine bk_62_14 ⟨fun _ => h M2 o2 L2, fun q => ?_⟩
    rw [C2.1 1 (by omega), iz_le (by omega) (by omega) (by omega) (by omega)] at q
    omega
  · rintro i M2 hi ⟨o2, L2⟩ ih
    have C2 := hC.off o2 (by unfold cLn; intro f i; omega)
    have v7 := iz_inN (i := i) (n := 7) (by omega) (by omega)
    have eb := heb i
    have een : M2.1 4 0 3 i = iz (en i) := (o2.1 _ _ _ _ (by unfold cLn; omega)).trans (hen i (by omega))
    have hll := lin_len (bd := bdS S) (mk := mkS S) (ex := exE en) (bar := S 3) i
    have hlt : ∀ x ∈ lin (bdS S) (mkS S) (exE en) (S 3) i, x < i := fun x hx => lin_lt i x hx
    refine bk_62_14 ⟨fun q => ?_, fun _ => ⟨v7, ?_⟩⟩
    · rw [C2.1 1 (by omega), iz_le (by omega) (by omega) (by omega) (by omega)] at q
      omega
    rw [iz_clN (by omega), een, iz_m1, iz_eq (by omega) (by omega) (by omega) (by omega), iz_s, C2.2.2.2.2.1 i (by omega), C2.2.2.2.2.2.1 i (by omega)]
    refine ⟨fun q => ?_, fun q => ⟨v7, v7, ?_⟩⟩
    · refine ih M2 ⟨o2, ?_⟩
      rw [lin, if_pos (Or.inl (by unfold exE; simpa using q))]
      exact L2
    · have hex : ¬ exE en i = true := by unfold exE; simpa using q
      refine c_putIn (bd := bdS S) (mk := mkS S) (n := (S 1).toNat) L2 (by omega) (lin_srt _) hr (fun x hx => by have := hlt x hx; omega) (by omega) hi (fun z => by have := hlt i z; omega) hS.2.2.2.1 (fun q2 => ⟨_, rfl, ih M2 ⟨o2, ?_⟩⟩) (fun q2 p M3 o3 hp e3 L3 => ⟨_, rfl, ih M3 ⟨o2.tr o3, ?_⟩⟩)
      · rw [lin, if_pos (Or.inr q2)]
        exact L2
      · rw [lin, if_neg (by rintro (z | z); exact hex z; exact q2 z), ← ins2_ins _ hlt]
        exact L3
theorem c_poor (hS : SOK S) (hL : cL M 3 S (S 3) (bdS S) (mkS S) (lnE S en)) (hpu : cPu M pu) (hpb : ∀ i, i < 7 → 0 ≤ pu i ∧ pu i ≤ 9999) (hs : ∀ p, por S pu en = some p → Q (some (zi (iz (((lnE S en).getD p 0 : Nat) : Int)))) M) (hn : por S pu en = none → Q (some (zi (iz (-1)))) M) : zEv Γ 63 [zo 4 0 0] M Q := by
  have h7 := hS.2.1
  have h6 := hS.1
  have hlen := lnE_len hS (en := en)
  have hN : stE S en ≤ 6 := by unfold stE; omega
  have hNl : stE S en ≤ (lnE S en).length := by unfold stE; omega
  have hr := rngS hS
  refine en_63 (bk_63_0 (c_count (nb := (S 0).toNat) hS (by omega) hL (by omega) ⟨_, rfl, ?_⟩))
  refine nloop (G := fun p => por S pu en = fnd (fun p => decide (pu ((lnE S en).getD p 0) < pyE S en p)) p (stE S en - p) → zGo Γ 63 Q 10 [some (zo 4 0 0), some (zi (iz ((stE S en : Nat) : Int))), some (zi (iz (p : Int)))] [] M) (n := stE S en) (fun e => ?_) (fun p hp ih e => ?_) (stE S en) 0 (by omega) rfl
  · rw [Nat.sub_self] at e
    refine bk_63_10 ⟨fun _ => hn e, fun q => ?_⟩
    rw [iz_le (by omega) (by omega) (by omega) (by omega)] at q
    omega
  · rw [show stE S en - p = (stE S en - (p + 1)) + 1 by omega, fnd_s p] at e
    have hx := (lnE_lt (getD_mem (show p < (lnE S en).length by omega))).1
    have ew : M.1 2 3 2 p = iz (((lnE S en).getD p 0 : Nat) : Int) := (hL.2.2.2.2.2.1 p (by omega)).1
    have hpy := pyE_b hS (en := en) p
    have hpx := hpb ((lnE S en).getD p 0) (by omega)
    refine bk_63_10 ⟨fun q => ?_, fun _ => ⟨iz_inN (by omega) (by omega), ?_⟩⟩
    · rw [iz_le (by omega) (by omega) (by omega) (by omega)] at q
      omega
    rw [iz_clN (show p < 2147483648 by omega), ew, iz_clN (show (lnE S en).getD p 0 < 2147483648 by omega), hpu _ (by omega), iz_s]
    refine ⟨iz_inN (by omega) (by omega), c_payAt (nb := (S 0).toNat) hS (by omega) hL (by omega) hr (fun x hx => (lnE_lt hx).1) hS.2.2.2.1 (fun x hx => (lnE_lt hx).2) (by omega) ⟨_, rfl, ?_⟩⟩
    have ep : payB S (bdS S) (mkS S) (S 3) (lnE S en) (S 0).toNat p = pyE S en p := rfl
    rw [ep, iz_le (by omega) (by omega) (by omega) (by omega)]
    refine ⟨fun q => ih ?_, fun q => ⟨iz_inN (by omega) (by omega), ?_⟩⟩
    · rw [if_neg (by rw [decide_eq_true_iff]; omega)] at e
      exact e
    · rw [if_pos (by rw [decide_eq_true_iff]; omega)] at e
      rw [ew]
      exact hs p e
theorem c_sellOn {d : Nat} (hS : SOK S) (hC : cS M ts S) (hI : lI M 3) (hen : cEn M en) (heb : ∀ i, en i = -1 ∨ (1 ≤ en i ∧ en i ≤ 60)) (hpu : cPu M pu) (hpb : ∀ i, i < 7 → 0 ≤ pu i ∧ pu i ≤ 9999) (hd : 1 ≤ d ∧ d ≤ 60)
    (h : ∀ M', Off oPu M M' → lI M' 3 → cL M' 3 S (S 3) (bdS S) (mkS S) (lnE S (enS S pu (d : Int) 7 en)) → cEn M' (enS S pu (d : Int) 7 en) → cPu M' (puQ S pu (enS S pu (d : Int) 7 en) (stE S (enS S pu (d : Int) 7 en))) → Q none M') : zEv Γ 61 [zo 4 0 0, zo 7 ts 0, zi (iz (d : Int))] M Q := by
  have h7 := hS.2.1
  have h6 := hS.1
  have hr := rngS hS
  -- the payments
  have pays : ∀ (M2 : zM) (en' : Nat → Int), Off oPu M M2 → cL M2 3 S (S 3) (bdS S) (mkS S) (lnE S en') → cEn M2 en' → cPu M2 pu → por S pu en' = none → en' = enS S pu (d : Int) 7 en → zEv Γ 26 [zo 2 3 0] M2 (fun o M1 => ∃ r1, o = some (zi r1) ∧ zGo Γ 61 Q 60 [some (zo 4 0 0), none, none, none, some (zi r1), some (zi 0)] [] M1) := by
    intro M2 en' o2 L2 e2 p2 hp hE
    have hlen := lnE_len hS (en := en')
    have hN : stE S en' ≤ 6 := by unfold stE; omega
    have hNl : stE S en' ≤ (lnE S en').length := by unfold stE; omega
    refine c_count (nb := (S 0).toNat) hS (by omega) L2 (by omega) ⟨_, rfl, ?_⟩
    refine zloop (P := fun q M3 => Off oPu M M3 ∧ cL M3 3 S (S 3) (bdS S) (mkS S) (lnE S en') ∧ cEn M3 en' ∧ cPu M3 (puQ S pu en' q)) (G := fun q M3 => zGo Γ 61 Q 60 [some (zo 4 0 0), none, none, none, some (zi (iz ((stE S en' : Nat) : Int))), some (zi (iz (q : Int)))] [] M3) (n := stE S en') ?_ ?_ (stE S en') 0 M2 (by omega) ⟨o2, L2, e2, p2⟩
    · rintro M3 ⟨o3, L3, e3, p3⟩
      refine bk_61_60 ⟨fun _ => ?_, fun q => ?_⟩
      · subst hE
        exact h M3 o3 (cL.inv hS L3 (by omega)) L3 e3 p3
      · rw [iz_le (by omega) (by omega) (by omega) (by omega)] at q
        omega
    · rintro q M3 hq ⟨o3, L3, e3, p3⟩ ih
      have hx := (lnE_lt (getD_mem (show q < (lnE S en').length by omega))).1
      have ew : M3.1 2 3 2 q = iz (((lnE S en').getD q 0 : Nat) : Int) := (L3.2.2.2.2.2.1 q (by omega)).1
      refine bk_61_60 ⟨fun z => ?_, fun _ => ⟨iz_inN (by omega) (by omega), ?_⟩⟩
      · rw [iz_le (by omega) (by omega) (by omega) (by omega)] at z
        omega
      rw [iz_clN (show q < 2147483648 by omega), ew, iz_clN (show (lnE S en').getD q 0 < 2147483648 by omega), p3 _ (by omega)]
      refine ⟨iz_inN (by omega) (by omega), c_payAt (nb := (S 0).toNat) hS (by omega) L3 (by omega) hr (fun x hx => (lnE_lt hx).1) hS.2.2.2.1 (fun x hx => (lnE_lt hx).2) (by omega) ⟨_, rfl, iz_inN (by omega) (by omega), ?_⟩⟩
      have ep : payB S (bdS S) (mkS S) (S 3) (lnE S en') (S 0).toNat q = pyE S en' q := rfl
      rw [ep, iz_sub, iz_s]
      have ow : Off (fun c t f _ => c = 4 ∧ t = 0 ∧ f = 2) M3 (zw M3 4 0 2 ((lnE S en').getD q 0) (iz (puQ S pu en' q ((lnE S en').getD q 0) - pyE S en' q))) := (Off.rf M3).w _ ⟨rfl, rfl, rfl⟩
      refine ih _ ⟨o3.w _ (Or.inl ⟨rfl, rfl⟩), L3.off ow (by intro f i; omega), fun i hi => (ow.1 _ _ _ _ (by omega)).trans (e3 i hi), fun i hi => ?_⟩
      rw [puQ_s (by omega)]
      by_cases e : i = (lnE S en').getD q 0
      · rw [e, zw_eq, updB_eq]
      · rw [zw_ne (by omega), updB_ne e]
        exact p3 i hi
  -- those who cannot pay
  have main : ∀ (dd k : Nat) (M2 : zM) (en' : Nat → Int), k + dd = 7 → Off oPu M M2 → cL M2 3 S (S 3) (bdS S) (mkS S) (lnE S en') → cEn M2 en' → (∀ i, en' i = -1 ∨ (1 ≤ en' i ∧ en' i ≤ 60)) → cPu M2 pu → enS S pu (d : Int) dd en' = enS S pu (d : Int) 7 en → por S pu (enS S pu (d : Int) dd en') = none → zEv Γ 63 [zo 4 0 0] M2 (fun o M3 => ∃ r2, o = some (zi r2) ∧ zGo Γ 61 Q 13 [some (zo 4 0 0), some (zo 7 ts 0), some (zi (iz (d : Int))), some (zi r2), some (zi (iz (k : Int))), none] [] M3) := by
    intro dd
    induction dd with
    | zero =>
      intro k M2 en' hk o2 L2 e2 b2 p2 hE hp
      have hk7 : k = 7 := by omega
      subst hk7
      have := pays M2 en' o2 L2 e2 p2 hp hE
      exact c_poor hS L2 p2 hpb (fun p z => ⟨_, rfl, bk_61_13 ⟨fun _ => this, fun q => absurd (by decide) q⟩⟩) (fun z => ⟨_, rfl, bk_61_13 ⟨fun _ => this, fun q => absurd (by decide) q⟩⟩)
    | succ dd ih =>
      intro k M2 en' hk o2 L2 e2 b2 p2 hE hp
      refine c_poor hS L2 p2 hpb (fun p z => ⟨_, rfl, bk_61_13 ⟨fun q => ?_, fun _ => ⟨fun q => ?_, fun _ => ?_⟩⟩⟩) (fun z => ⟨_, rfl, bk_61_13 ⟨fun q => ?_, fun _ => ⟨fun _ => ?_, fun q => absurd rfl q⟩⟩⟩)
      · rw [show (7 : Int32) = iz 7 from rfl, iz_le (by omega) (by omega) (by omega) (by omega)] at q
        omega
      · have hx := (lnE_lt (por_lt z).2).1
        rw [iz_m1, iz_eq (by omega) (by omega) (by omega) (by omega)] at q
        omega
      · have hx := (lnE_lt (por_lt z).2).1
        have est : stpE S pu (d : Int) en' = updB en' ((lnE S en').getD p 0) (d : Int) := by unfold stpE; rw [z]
        rw [enS, est] at hE hp
        have i2 := cL.inv hS L2 (by have := lnE_len hS (en := en'); omega)
        rw [iz_clN (by omega)]
        have ow : Off (fun c t f _ => c = 4 ∧ t = 0 ∧ f = 3) M2 (zw M2 4 0 3 ((lnE S en').getD p 0) (iz (d : Int))) := (Off.rf M2).w _ ⟨rfl, rfl, rfl⟩
        have C3 := (hC.off o2 (by unfold oPu; intro f i; omega)).off ow (by intro f i; omega)
        have e3 : cEn (zw M2 4 0 3 ((lnE S en').getD p 0) (iz (d : Int))) (updB en' ((lnE S en').getD p 0) (d : Int)) := fun i hi => by
          by_cases e : i = (lnE S en').getD p 0
          · rw [e, zw_eq, updB_eq]
          · rw [zw_ne (by omega), updB_ne e]
            exact e2 i hi
        have b3 : ∀ i, updB en' ((lnE S en').getD p 0) (d : Int) i = -1 ∨ (1 ≤ updB en' ((lnE S en').getD p 0) (d : Int) i ∧ updB en' ((lnE S en').getD p 0) (d : Int) i ≤ 60) := fun i => by
          unfold updB
          by_cases e : i = (lnE S en').getD p 0
          · rw [if_pos e]
            omega
          · rw [if_neg e]
            exact b2 i
        refine ⟨iz_inN (by omega) (by omega), c_lineUpLeft hS C3 (i2.off ow (by intro f i; omega)) e3 b3 (fun M4 o4 L4 => ⟨rfl, ?_⟩)⟩
        rw [iz_s]
        exact ih (k + 1) M4 _ (by omega) ((o2.w _ (Or.inl ⟨rfl, rfl⟩)).tr (o4.wk (by unfold cLn oPu; intro c t f i; omega))) L4 (fun i hi => (o4.1 _ _ _ _ (by unfold cLn; omega)).trans (e3 i hi)) b3 (fun i hi => ((o4.1 _ _ _ _ (by unfold cLn; omega)).trans (ow.1 _ _ _ _ (by omega))).trans (p2 i hi)) hE hp
      · rw [show (7 : Int32) = iz 7 from rfl, iz_le (by omega) (by omega) (by omega) (by omega)] at q
        omega
      · refine pays M2 en' o2 L2 e2 p2 z ?_
        rw [← hE, enS_fix _ _ z]
  refine en_61 (bk_61_0 (c_lineUpLeft hS hC hI hen heb (fun M1 o1 L1 => ⟨rfl, ?_⟩)))
  exact main 7 0 M1 en (by omega) (o1.wk (by unfold cLn oPu; intro c t f i; omega)) L1 (fun i hi => (o1.1 _ _ _ _ (by unfold cLn; omega)).trans (hen i hi)) heb (fun i hi => (o1.1 _ _ _ _ (by unfold cLn; omega)).trans (hpu i hi)) rfl (enS_end (by omega) 7 _ (lnE_len hS))
theorem c_sellFor {d : Nat} (hS : SOK S) (hC : cS M ts S) (hI : lI M 3) (hd : 1 ≤ d ∧ d ≤ 60) (h : ∀ M', Off oPu M M' → lI M' 3 → cL M' 3 S (S 3) (bdS S) (mkS S) (lnE S (dyE S d).2) → cEn M' (dyE S d).2 → cPu M' (dyE S d).1 → Q none M') : zEv Γ 60 [zo 4 0 0, zo 7 ts 0, zi (iz (d : Int))] M Q := by
  refine en_60 (bk_60_0 ?_)
  refine zloop (P := fun i M2 => Off oPu M M2 ∧ lI M2 3 ∧ ∀ j, j < i → M2.1 4 0 2 j = iz (S (31 + j)) ∧ M2.1 4 0 3 j = iz (-1)) (G := fun i M2 => zGo Γ 60 Q 2 [some (zo 4 0 0), some (zo 7 ts 0), some (zi (iz (d : Int))), some (zi (iz (i : Int)))] [] M2) (n := 7) ?_ ?_ 7 0 M (by omega) ⟨Off.rf M, hI, fun j hj => by omega⟩
  · rintro M1 ⟨o1, i1, s1⟩
    refine bk_60_2 ⟨fun _ => ?_, fun q => absurd (by decide) q⟩
    refine zloop (P := fun k M2 => Off oPu M M2 ∧ lI M2 3 ∧ cEn M2 (dyE S k).2 ∧ cPu M2 (dyE S k).1 ∧ (1 ≤ k → cL M2 3 S (S 3) (bdS S) (mkS S) (lnE S (dyE S k).2))) (G := fun k M2 => zGo Γ 60 Q 35 [some (zo 4 0 0), some (zo 7 ts 0), some (zi (iz (d : Int))), some (zi (iz ((k + 1 : Nat) : Int)))] [] M2) (n := d) ?_ ?_ d 0 M1 (by omega) ⟨o1, i1, fun i hi => (s1 i hi).2, fun i hi => (s1 i hi).1, fun z => by omega⟩
    · rintro M2 ⟨o2, i2, e2, p2, L2⟩
      refine bk_60_35 ⟨fun _ => h M2 o2 i2 (L2 (by omega)) e2 p2, fun q => ?_⟩
      rw [iz_lt (by omega) (by omega) (by omega) (by omega)] at q
      omega
    · rintro k M2 hk ⟨o2, i2, e2, p2, -⟩ ih
      have C2 := hC.off o2 (by unfold oPu; intro f i; omega)
      have hb := dyE_b hS k (by omega)
      refine bk_60_35 ⟨fun q => ?_, fun _ => c_sellOn hS C2 i2 e2 hb.2 p2 hb.1 (by omega) (fun M3 o3 i3 L3 e3 p3 => ⟨rfl, ?_⟩)⟩
      · rw [iz_lt (by omega) (by omega) (by omega) (by omega)] at q
        omega
      · rw [iz_s]
        exact ih M3 ⟨o2.tr o3, i3, e3, p3, fun _ => L3⟩
  · rintro i M2 hi ⟨o2, i2, s2⟩ ih
    have C2 := hC.off o2 (by unfold oPu; intro f i; omega)
    have v7 := iz_inN (i := i) (n := 7) (by omega) (by omega)
    refine bk_60_2 ⟨fun q => ?_, fun _ => ⟨v7, v7, v7, ?_⟩⟩
    · rw [show (7 : Int32) = iz 7 from rfl, iz_le (by omega) (by omega) (by omega) (by omega)] at q
      omega
    · rw [iz_clN (by omega), C2.2.2.2.2.2.2.1 i hi, iz_s]
      have ow : Off (fun c t _ _ => c = 4 ∧ t = 0) M2 (zw (zw M2 4 0 2 i (iz (S (31 + i)))) 4 0 3 i (-1)) := ((Off.rf M2).w _ ⟨rfl, rfl⟩).w _ ⟨rfl, rfl⟩
      refine ih _ ⟨(o2.w _ (Or.inl ⟨rfl, rfl⟩)).w _ (Or.inl ⟨rfl, rfl⟩), i2.off ow (by intro f i; omega), fun j hj => ?_⟩
      by_cases e : j = i
      · subst e
        rw [zw_ne (by omega), zw_eq, zw_eq]
        exact ⟨rfl, rfl⟩
      · rw [zw_ne (by omega), zw_ne (by omega), zw_ne (by omega), zw_ne (by omega)]
        exact s2 j (by omega)
end Z74
