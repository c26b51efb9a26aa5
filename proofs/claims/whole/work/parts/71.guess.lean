/-! guess: the class -/
def fGs (S : SB) (e : Nat) (x : Int) (p : Nat → Nat) : Int := chW S (e : Int) p * gX S (cBd S p) e x
def gnT (S : SB) (e : Nat) (x : Int) (m : Nat) : Int := sumTo (fun ρ => fGs S e x (dL (Bs S (e : Int)) (S 1).toNat ρ)) m
def gnA (S : SB) (e : Nat) (x : Int) : Int := gnT S e x (nB (Bs S (e : Int)) (S 1).toNat)
def gsF (S : SB) (e k : Nat) : Int64 := lz (gnA S e (k : Int))
def gGuess (S : SB) (y m : Int32) : Int64 := if 0 ≤ y.toInt ∧ y.toInt < S 1 then (if m = 0 then lz ((fgr (gsF S y.toInt.toNat) 99 : Nat) : Int) else gsF S y.toInt.toNat (fgr (gsF S y.toInt.toNat) 99)) else -4000000000000000000
def oSu (c t f _i : Nat) : Prop := c = 0 ∧ t = 0 ∧ f = 4
theorem gB_eq {S : SB} {bd mk : Nat → Int} {lo : List Nat} {i : Nat} {bar x y : Int} (hx : ¬ (x < bar ∨ x = 0)) (hy : ¬ (y < bar ∨ y = 0)) (h2 : ¬ S 2 = 0) (hp : plf (gLe bd mk lo i (x * mk i)) lo.length = plf (gLe bd mk lo i (y * mk i)) lo.length) : gB S bd mk lo i bar x = gB S bd mk lo i bar y := by
  rw [gB_st hx, gB_st hy, hp]
  unfold askV
  rw [if_neg h2, if_neg h2]
theorem cL.off {P : Nat → Nat → Nat → Nat → Prop} {M M' : zM} {t : Nat} {S : SB} {bar : Int} {bd mk : Nat → Int} {l : List Nat} (h : cL M t S bar bd mk l) (ho : Off P M M') (hP : ∀ f i, ¬ P 2 t f i) : cL M' t S bar bd mk l := by
  have oo : ∀ f i, M'.1 2 t f i = M.1 2 t f i := fun f i => ho.1 _ _ _ _ (hP f i)
  obtain ⟨l1, l2, l3, l4, l5, l6, l7⟩ := h
  exact ⟨(oo _ _).trans l1, (oo _ _).trans l2, (oo _ _).trans l3, (oo _ _).trans l4, fun j hj => (oo _ _).trans (l5 j hj), fun k hk => ⟨(oo _ _).trans (l6 k hk).1, (oo _ _).trans (l6 k hk).2.1, (oo _ _).trans (l6 k hk).2.2⟩, fun k hk => (oo _ _).trans (l7 k hk)⟩
section Z71
variable {Γ : zC} {Q : zQ} {M : zM} {ts cnt : Nat} {S : SB} {SS : Nat → SB} {bd : Nat → Int} {sg : Nat → Int}
theorem c_addGains {e : Nat} {w : Int} (hS : SOK S) (hC : cS M ts S) (he : e < (S 1).toNat) (hL : cL M 2 S (S 3) bd (mkS S) (linO bd (mkS S) e (S 3) (S 1).toNat)) (hr : rng (S 1).toNat bd (mkS S)) (hg : ∀ k, k < 100 → M.2 0 0 4 k = lz (sg k))
    (h : ∀ M', Off oSu M M' → (∀ k, k < 100 → M'.2 0 0 4 k = lz (sg k + w * gX S bd e (k : Int))) → Q none M') : zEv Γ 6 [zo 0 0 0, zo 7 ts 0, zi (iz (e : Int)), zl (lz w)] M Q := by
  have h7 := hS.2.1
  have h6 := hS.1
  have h3 := hS.2.2.2.1
  have hw2 := hS.2.2.1
  have hlo : ∀ y ∈ linO bd (mkS S) e (S 3) (S 1).toNat, y < (S 1).toNat := fun y hy => (linO_mem.mp hy).1
  have hlen : (linO bd (mkS S) e (S 3) (S 1).toNat).length ≤ 7 := by
    have := lin_len (bd := bd) (mk := mkS S) (ex := fun k => decide ((k : Int) = (e : Int))) (bar := S 3) (S 1).toNat
    unfold linO
    omega
  have hgx : ∀ k : Nat, gX S bd e (k : Int) = gB S bd (mkS S) (linO bd (mkS S) e (S 3) (S 1).toNat) e (S 3) (k : Int) := fun k => rfl
  have hgb : ∀ k : Nat, k < 100 → -100000 ≤ gB S bd (mkS S) (linO bd (mkS S) e (S 3) (S 1).toNat) e (S 3) (k : Int) ∧ gB S bd (mkS S) (linO bd (mkS S) e (S 3) (S 1).toNat) e (S 3) (k : Int) ≤ 100000 := fun k hk => gB_b hS hr hlo he (by omega) h3 (by omega)
  simp only [hgx] at h
  generalize linO bd (mkS S) e (S 3) (S 1).toNat = lo at *
  have hmk := hr e he
  have emk : M.1 7 ts 9 e = iz (mkS S e) := hC.2.2.2.2.2.1 e (by omega)
  obtain ⟨s0, hs0⟩ : ∃ s0 : Nat, (s0 : Int) = max 1 (S 3) := ⟨(max 1 (S 3)).toNat, by omega⟩
  refine en_6 (bk_6_0 ?_)
  have e1 : (if (1 : Int32) < M.1 2 2 0 7 then M.1 2 2 0 7 else 1) = iz (s0 : Int) := by
    rw [hL.2.2.1, iz1, iz_max (by omega) (by omega) (by omega) (by omega), hs0]
  rw [e1, hL.2.2.2.1, iz_s]
  have key := zloop (P := fun x M2 => s0 ≤ x ∧ Off oSu M M2 ∧ ∀ k, k < 100 → M2.2 0 0 4 k = lz (sg k + (if s0 ≤ k ∧ k < x then w * gB S bd (mkS S) lo e (S 3) (k : Int) else 0))) (G := fun x M2 => zGo Γ 6 Q 27 [some (zo 0 0 0), some (zo 7 ts 0), some (zi (iz (e : Int))), some (zl (lz w)), none, some (zi (iz ((if x = s0 then lo.length + 1 else plf (gLe bd (mkS S) lo e (((x - 1 : Nat) : Int) * mkS S e)) lo.length : Nat) : Int))), some (zi (iz (if x = s0 then 0 else gB S bd (mkS S) lo e (S 3) ((x - 1 : Nat) : Int)))), some (zi (iz (x : Int))), none] [] M2) (n := 100) ?_ ?_ (100 - s0) s0 M (by omega) ⟨by omega, Off.rf M, fun k hk => by rw [if_neg (by omega), Int.add_zero]; exact hg k hk⟩
  · rw [if_pos rfl, if_pos rfl] at key
    exact key
  · rintro M2 ⟨_, o2, g2⟩
    refine bk_6_27 ⟨fun _ => h M2 o2 (fun k hk => ?_), fun q => absurd (by decide) q⟩
    rw [g2 k hk]
    by_cases z : s0 ≤ k
    · rw [if_pos (by omega)]
    · rw [if_neg (by omega)]
      have : gB S bd (mkS S) lo e (S 3) (k : Int) = 0 := by
        unfold gB
        rw [if_pos (by omega)]
      rw [this, Int.mul_zero]
  · rintro x M2 hx ⟨hsx, o2, g2⟩ ih
    have L2 := hL.off o2 (by unfold oSu; intro f i; omega)
    have C2 := hC.off o2 (by unfold oSu; intro f i; omega)
    have emk2 : M2.1 7 ts 9 e = iz (mkS S e) := C2.2.2.2.2.2.1 e (by omega)
    have hpr : 0 ≤ (x : Int) * mkS S e ∧ (x : Int) * mkS S e ≤ 99 * 9 := ⟨Int.mul_nonneg (by omega) (by omega), Int.mul_le_mul (by omega) hmk.2.2 (by omega) (by omega)⟩
    have hgx1 := hgb x hx
    have hpl := plf_le (g := gLe bd (mkS S) lo e ((x : Int) * mkS S e)) lo.length
    have hxok : ¬ ((x : Int) < S 3 ∨ (x : Int) = 0) := by omega
    -- the place from the place before
    have hcut : plf (gLe bd (mkS S) lo e ((x : Int) * mkS S e)) (min (if x = s0 then lo.length + 1 else plf (gLe bd (mkS S) lo e (((x - 1 : Nat) : Int) * mkS S e)) lo.length) lo.length) = plf (gLe bd (mkS S) lo e ((x : Int) * mkS S e)) lo.length := by
      by_cases z : x = s0
      · rw [if_pos z, show min (lo.length + 1) lo.length = lo.length by omega]
      · rw [if_neg z]
        refine (plf_cut lo.length (fun k k1 k2 => ?_)).symm
        refine gLe_mono (s := ((x - 1 : Nat) : Int) * mkS S e) ?_ k (plf_in _ k k1 k2)
        exact Int.mul_le_mul_of_nonneg_right (by omega) (by omega)
    have hp0 : (if x = s0 then lo.length + 1 else plf (gLe bd (mkS S) lo e (((x - 1 : Nat) : Int) * mkS S e)) lo.length) < 100 := by
      have := plf_le (g := gLe bd (mkS S) lo e (((x - 1 : Nat) : Int) * mkS S e)) lo.length
      split <;> omega
    have nx : ∀ g : Int, g = gB S bd (mkS S) lo e (S 3) (x : Int) → vp_in (iz (x : Int)) 100 ∧ vp_in (iz (x : Int)) 100 ∧ zGo Γ 6 Q 27 [some (zo 0 0 0), some (zo 7 ts 0), some (zi (iz (e : Int))), some (zl (lz w)), none, some (zi (iz ((plf (gLe bd (mkS S) lo e ((x : Int) * mkS S e)) lo.length : Nat) : Int))), some (zi (iz g)), some (zi (iz (x : Int) + 1)), none] [] (zwl M2 0 0 4 (iz (x : Int)).toNatClampNeg (M2.2 0 0 4 (iz (x : Int)).toNatClampNeg + lz w * (iz g).toInt64)) := by
      intro g hge
      refine ⟨iz_inN (by omega) (by omega), iz_inN (by omega) (by omega), ?_⟩
      rw [iz_clN (by omega), g2 x hx, iz_lz (by omega) (by omega), lz_mul, lz_add, iz_s, hge]
      have := ih (zwl M2 0 0 4 x (lz (sg x + (if s0 ≤ x ∧ x < x then w * gB S bd (mkS S) lo e (S 3) (x : Int) else 0) + w * gB S bd (mkS S) lo e (S 3) (x : Int)))) ⟨by omega, o2.wl _ ⟨rfl, rfl, rfl⟩, fun k hk => ?_⟩
      · rw [if_neg (by omega), if_neg (by omega), show x + 1 - 1 = x by omega] at this
        exact this
      · rw [zwl_get]
        by_cases z : k = x
        · subst z
          rw [if_pos ⟨rfl, rfl, rfl, rfl⟩, if_neg (by omega), if_pos (by omega), Int.add_zero]
        · rw [if_neg (by omega), g2 k hk]
          by_cases z2 : s0 ≤ k ∧ k < x
          · rw [if_pos z2, if_pos (by omega)]
          · rw [if_neg z2, if_neg (by omega)]
    refine bk_6_27 ⟨fun q => ?_, fun _ => ⟨iz_inN (by omega) (by omega), ?_⟩⟩
    · rw [show (99 : Int32) = iz 99 from rfl, iz_lt (by omega) (by omega) (by omega) (by omega)] at q
      omega
    rw [iz_clN (show e < 2147483648 by omega), emk2, iz_mul]
    refine c_placeFrom (n := (S 1).toNat) L2 (by omega) hr hlo (by omega) (by omega) hp0 (by omega) ⟨_, rfl, ?_⟩
    rw [hcut]
    have gain : ∀ {Q1 : zQ}, Q1 (some (zi (iz (gB S bd (mkS S) lo e (S 3) (x : Int))))) M2 → zEv Γ 35 [zo 2 2 0, zo 7 ts 0, zi (iz (e : Int)), zi (iz (x : Int)), zi (iz ((plf (gLe bd (mkS S) lo e ((x : Int) * mkS S e)) lo.length : Nat) : Int))] M2 Q1 := fun {Q1} hq => c_gainIfHe (n := (S 1).toNat) hS C2 L2 hr hlo (by omega) he rfl h3 (by omega) (by omega) (by rw [← gB_st hxok]; exact hq)
    rw [L2.2.1, iz_lt (by omega) (by omega) (by omega) (by omega), iz0, iz_eq (by omega) (by omega) (by omega) (by omega)]
    refine ⟨fun q => gain ⟨_, rfl, nx _ rfl⟩, fun q => ⟨fun q2 => nx _ ?_, fun q2 => gain ⟨_, rfl, nx _ rfl⟩⟩⟩
    by_cases z : x = s0
    · rw [if_pos z] at q
      omega
    · rw [if_neg z] at q hcut ⊢
      refine gB_eq (by omega) hxok q2 ?_
      have hple := plf_le (g := gLe bd (mkS S) lo e ((x : Int) * mkS S e)) (min (plf (gLe bd (mkS S) lo e (((x - 1 : Nat) : Int) * mkS S e)) lo.length) lo.length)
      rw [hcut] at hple
      omega
theorem c_addUpGains {e : Nat} (hS : SOK S) (hC : cS M ts S) (hI : lI M 2) (he : e < (S 1).toNat) (h : ∀ M', Off oCh M M' → lI M' 2 → (∀ k, k < 100 → M'.2 0 0 4 k = gsF S e k) → Q none M') : zEv Γ 5 [zo 0 0 0, zo 7 ts 0, zi (iz (e : Int))] M Q := by
  have h7 := hS.2.1
  have h6 := hS.1
  have hN := nB_2187 hS (e := (e : Int))
  have hN0 := nB_pos (B := Bs S (e : Int)) Bs_pos (S 1).toNat
  refine en_5 (bk_5_0 ?_)
  refine zloop (P := fun k M2 => Off oCh M M2 ∧ lI M2 2 ∧ ∀ j, j < k → M2.2 0 0 4 j = lz 0) (G := fun k M2 => zGo Γ 5 Q 2 [some (zo 0 0 0), some (zo 7 ts 0), some (zi (iz (e : Int))), some (zi (iz (k : Int))), none] [] M2) (n := 100) ?_ ?_ 100 0 M (by omega) ⟨Off.rf M, hI, fun j hj => by omega⟩
  · rintro M1 ⟨o1, i1, g1⟩
    have C1 := hC.off o1 (by unfold oCh; intro f i; omega)
    refine bk_5_2 ⟨fun _ => c_firstRow hS C1 (fun M2 o2 p2 => ⟨rfl, ?_⟩), fun q => absurd (by decide) q⟩
    have key := zloop (P := fun ρ M3 => Off oCh M M3 ∧ lI M3 2 ∧ (∀ k, k < 100 → M3.2 0 0 4 k = lz (gnT S e (k : Int) ρ)) ∧ (ρ < nB (Bs S (e : Int)) (S 1).toNat → pS M3 S (dL (Bs S (e : Int)) (S 1).toNat ρ))) (G := fun ρ M3 => zGo Γ 5 Q 31 [some (zo 0 0 0), some (zo 7 ts 0), some (zi (iz (e : Int))), some (zi (iz (if ρ < nB (Bs S (e : Int)) (S 1).toNat then 1 else 0))), some (zi (iz (ρ : Int)))] [] M3) (n := nB (Bs S (e : Int)) (S 1).toNat) ?_ ?_ (nB (Bs S (e : Int)) (S 1).toNat) 0 M2 (by omega) ⟨o1.tr (o2.wk (by unfold oPk oCh; intro c t f i; omega)), i1.off o2 (by unfold oPk; intro f i; omega), fun k hk => (o2.2 _ _ _ _ (by unfold oPk; omega)).trans (g1 k hk), fun _ => by rw [dL_0]; exact p2⟩
    · rw [if_pos hN0] at key
      exact key
    · rintro M3 ⟨o3, i3, g3, -⟩
      exact bk_5_31 ⟨fun _ => h M3 o3 i3 g3, fun _ => ⟨fun _ => h M3 o3 i3 g3, fun q => absurd (by rw [if_neg (by omega)]; rfl) q⟩⟩
    · rintro ρ M3 hρ ⟨o3, i3, g3, p3⟩ ih
      have C3 := hC.off o3 (by unfold oCh; intro f i; omega)
      have p3 := p3 hρ
      have h3 := dL_3 hS (e := (e : Int)) (m := (S 1).toNat) (ρ := ρ)
      have hr := rngC hS h3
      refine bk_5_31 ⟨fun q => ?_, fun _ => ⟨fun q => ?_, fun _ => ?_⟩⟩
      · rw [show (2187 : Int32) = iz 2187 from rfl, iz_le (by omega) (by omega) (by omega) (by omega)] at q
        omega
      · rw [if_pos hρ] at q
        exact absurd q (by decide)
      rw [C3.1 3 (by omega)]
      refine c_open hS C3 i3 (fun M4 o4 L4 => ⟨rfl, ?_⟩)
      have C4 := C3.off o4 (by unfold cLn; intro f i; omega)
      have p4 := p3.off o4 (by unfold cLn; intro i; omega) (by unfold cLn; intro i; omega)
      refine c_putOthers_0_3 (e := (e : Int)) (bd := cBd S (dL (Bs S (e : Int)) (S 1).toNat ρ)) (mk := mkS S) (n := (S 1).toNat) (by omega) hS (by omega) C4 (fun i hi => (p4 i hi).2) (fun i _ => rfl) hr hS.2.2.2.1 (L4 _ _) (fun M5 o5 L5 => ⟨rfl, ?_⟩)
      have C5 := C4.off o5 (by unfold cLn; intro f i; omega)
      have p5 := p4.off o5 (by unfold cLn; intro i; omega) (by unfold cLn; intro i; omega)
      have hlen := lin_len (bd := cBd S (dL (Bs S (e : Int)) (S 1).toNat ρ)) (mk := mkS S) (ex := fun k => decide ((k : Int) = (e : Int))) (bar := S 3) (S 1).toNat
      have i5 := cL.inv hS L5 (by omega)
      have g5 : ∀ k, k < 100 → M5.2 0 0 4 k = lz (gnT S e (k : Int) ρ) := fun k hk => ((o5.2 _ _ _ _ (by unfold cLn; omega)).trans (o4.2 _ _ _ _ (by unfold cLn; omega))).trans (g3 k hk)
      refine c_partsOfRow hS C5 (by omega) p5 h3 ⟨_, rfl, c_addGains hS C5 he L5 hr g5 (fun M6 o6 g6 => ⟨rfl, ?_⟩)⟩
      have C6 := C5.off o6 (by unfold oSu; intro f i; omega)
      have p6 := p5.off o6 (by unfold oSu; intro i; omega) (by unfold oSu; intro i; omega)
      refine c_nextSorts hS C6 (by omega) p6 hρ (fun M7 x o7 k1 k2 => ⟨_, rfl, ?_⟩)
      have nx := ih M7 ⟨((((o3.tr (o4.wk (by unfold cLn oCh; intro c t f i; omega))).tr (o5.wk (by unfold cLn oCh; intro c t f i; omega))).tr (o6.wk (by unfold oSu oCh; intro c t f i; omega)))).tr (o7.wk (by unfold oPk oCh; intro c t f i; omega)), (i5.off o6 (by unfold oSu; intro f i; omega)).off o7 (by unfold oPk; intro f i; omega), fun k hk => (o7.2 _ _ _ _ (by unfold oPk; omega)).trans (g6 k hk), fun z => (k1 z).2⟩
      have ex : x = if ρ + 1 < nB (Bs S (e : Int)) (S 1).toNat then 1 else 0 := by
        by_cases z : ρ + 1 < nB (Bs S (e : Int)) (S 1).toNat
        · rw [if_pos z]
          exact (k1 z).1
        · rw [if_neg z]
          exact k2 (by omega)
      rw [iz_s, ex]
      exact nx
  · rintro k M2 hk ⟨o2, i2, g2⟩ ih
    refine bk_5_2 ⟨fun q => ?_, fun _ => ⟨iz_inN (by omega) (by omega), ?_⟩⟩
    · rw [show (99 : Int32) = iz 99 from rfl, iz_lt (by omega) (by omega) (by omega) (by omega)] at q
      omega
    · rw [iz_clN (by omega), iz_s]
      refine ih _ ⟨o2.wl _ (Or.inl ⟨rfl, rfl⟩), i2, fun j hj => ?_⟩
      rw [zwl_get]
      by_cases z : j = k
      · rw [z, if_pos ⟨rfl, rfl, rfl, rfl⟩]
        rfl
      · rw [if_neg (by omega)]
        exact g2 j (by omega)
theorem c_guess {x y m : Int32} (hW : cW M cnt SS) (hI : ∀ t, t < 4 → lI M t) (h : ∀ M', Kp M M' → Q (some (zl (fL cnt SS x (fun S => gGuess S y m) (-4000000000000000000)))) M') : zEv Γ 141 [zo 9 0 0, zi x, zi y, zi m] M Q := by
  refine en_141 (bk_141_0 (c_saleAt hW (fun q => Or.inl ⟨rfl, ?_⟩) (fun s hs hx => Or.inr ⟨s, rfl, ?_⟩)))
  · have := h M (Kp.rf M)
    rw [fL_out q] at this
    exact this
  · obtain ⟨hC, hS⟩ := hW.2.2 s hs
    have h7 := hS.2.1
    rw [fL_in hs hW.2.1 hx] at h
    unfold gGuess at h
    refine c_hasBidder hS hC (fun q => ⟨_, rfl, fun q' => absurd rfl q', fun _ => ?_⟩) (fun i hi hy => ⟨_, rfl, fun _ => ?_, fun q' => absurd q' (by decide)⟩)
    · have h2 := h M (Kp.rf M)
      rw [if_neg (by omega)] at h2
      exact h2
    · subst hy
      rw [iz_toInt (by omega) (by omega), if_pos (by omega), show ((i : Int).toNat) = i by omega] at h
      have hf := fgr_le (f := gsF (SS s) i) 99
      refine c_addUpGains hS hC (hI 2 (by omega)) (by omega) (fun M1 o1 i1 s1 => ⟨rfl, c_firstGreatest s1 ⟨_, rfl, fun q => ?_, fun q => ⟨iz_inN (by omega) (by omega), ?_⟩⟩⟩)
      · have h2 := h M1 (Kp.ofC o1 i1)
        rw [if_pos q] at h2
        rw [iz_lz (by omega) (by omega)]
        exact h2
      · have h2 := h M1 (Kp.ofC o1 i1)
        rw [if_neg q] at h2
        rw [iz_clN (by omega), s1 _ (by omega)]
        exact h2
end Z71
