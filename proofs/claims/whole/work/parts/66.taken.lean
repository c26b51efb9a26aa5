/-! parts, taken -/
def fL (cnt : Nat) (SS : Nat → SB) (x : Int32) (G : SB → Int64) (d : Int64) : Int64 := if 0 ≤ x.toInt ∧ x.toInt < cnt then G (SS x.toInt.toNat) else d
theorem fL_in {cnt : Nat} {SS : Nat → SB} {x : Int32} {G : SB → Int64} {d : Int64} {s : Nat} (hs : s < cnt) (hc : cnt ≤ 3) (hx : x = iz (s : Int)) : fL cnt SS x G d = G (SS s) := by
  subst hx
  unfold fL
  rw [iz_toInt (by omega) (by omega), if_pos (by omega)]
  rfl
theorem fL_out {cnt : Nat} {SS : Nat → SB} {x : Int32} {G : SB → Int64} {d : Int64} (h : x.toInt < 0 ∨ (cnt : Int) ≤ x.toInt) : fL cnt SS x G d = d := by
  unfold fL
  rw [if_neg (by omega)]
def ptF (S : SB) (i : Nat) : Int := if S (80 + i) ≤ 0 then 1 else sumTo (fun k => S (88 + 2 * (3 * i + k))) (S (80 + i)).toNat
def gParts (S : SB) : Int64 := lz (prodTo (ptF S) (S 1).toNat)
def tkB (S : SB) (bd : Nat → Int) (bar : Int) : Int := sumTo (payB S bd (mkS S) bar (lin bd (mkS S) (fun _ => false) bar (S 1).toNat) (S 0).toNat) (S 0).toNat
def fT (S : SB) (bar : Int) (p : Nat → Nat) : Int := chW S (-1) p * tkB S (cBd S p) bar
def tkS (S : SB) (bar : Int) (m : Nat) : Int := sumTo (fun ρ => fT S bar (dL (Bs S (-1)) (S 1).toNat ρ)) m
def tkA (S : SB) (bar : Int) : Int := tkS S bar (nB (Bs S (-1)) (S 1).toNat)
def gTaken (S : SB) (y : Int32) : Int64 := if 0 ≤ y.toInt ∧ y.toInt ≤ 99 then lz (tkA S y.toInt) else -1
def oCh (c t _f _i : Nat) : Prop := (c = 0 ∧ t = 0) ∨ (c = 2 ∧ t = 2)
theorem Kp.ofC {M M' : zM} (h : Off oCh M M') (hi : lI M' 2) : Kp M M' := ⟨fun c t f i hp => h.1 _ _ _ _ (by unfold Pst at hp; unfold oCh; omega), fun hI t ht => by
  by_cases e : t = 2
  · rw [e]
    exact hi
  · exact (hI t ht).off h (by unfold oCh; intro f i; omega)⟩
theorem ex_no : (fun i : Nat => decide ((i : Int) = -1)) = fun _ => false := by
  funext i
  simp
theorem rngC {S : SB} (hS : SOK S) {p : Nat → Nat} (h3 : ∀ i, i < 7 → p i < 3) : rng (S 1).toNat (cBd S p) (mkS S) := fun i hi => by
  have h7 := hS.2.1
  exact ⟨cB1_b hS (by omega) (h3 i (by omega)), hS.2.2.2.2.2.2.2.1 i (by omega)⟩
theorem dL_3 {S : SB} (hS : SOK S) {e : Int} {m ρ : Nat} : ∀ i, i < 7 → dL (Bs S e) m ρ i < 3 := fun i hi => Nat.lt_of_lt_of_le (dL_lt Bs_pos m ρ i) (Bs_le hS hi)
theorem dF_3 {S : SB} (hS : SOK S) {e : Int} {m ρ : Nat} : ∀ i, i < 7 → dF (Bs S e) (fun _ => 0) m ρ i < 3 := fun i hi => by
  unfold dF
  split
  · exact Nat.lt_of_lt_of_le (Nat.mod_lt _ (Bs_pos i)) (Bs_le hS hi)
  · show 0 < 3
    omega
theorem tkB_b {S : SB} (hS : SOK S) {bd : Nat → Int} {bar : Int} (hr : rng (S 1).toNat bd (mkS S)) (hbar : 0 ≤ bar ∧ bar ≤ 99) : 0 ≤ tkB S bd bar ∧ tkB S bd bar ≤ 600000 := by
  have h6 := hS.1
  have := sumTo_b (f := payB S bd (mkS S) bar (lin bd (mkS S) (fun _ => false) bar (S 1).toNat) (S 0).toNat) (fun j => payB_b (nb := (S 0).toNat) hS hr (fun x hx => (lin_bar hx).1) hbar (fun x hx => (lin_bar hx).2) j) (S 0).toNat
  unfold tkB
  omega
section Z66
variable {Γ : zC} {Q : zQ} {M : zM} {b ts cnt : Nat} {S : SB} {SS : Nat → SB} {p : Nat → Nat}
theorem c_allParts (hS : SOK S) (hC : cS M ts S) (h : Q (some (zl (gParts S))) M) : zEv Γ 0 [zo 0 0 0, zo 7 ts 0] M Q := by
  have h7 := hS.2.1
  refine en_0 (bk_0_0 ?_)
  refine nloop (G := fun i => zGo Γ 0 Q 5 [none, some (zo 7 ts 0), some (zl (lz (prodTo (ptF S) i))), none, some (zi (iz (i : Int))), none, none] [] M) (n := (S 1).toNat) ?_ (fun i hi ih => ?_) (S 1).toNat 0 (by omega)
  · refine bk_0_5 ⟨fun _ => h, fun q => ?_⟩
    rw [hC.1 1 (by omega), iz_le (by omega) (by omega) (by omega) (by omega)] at q
    omega
  · have h11 := (hS.2.2.2.2.2.2.2.2.2.2.1 i (by omega)).1
    have v7 := iz_inN (i := i) (n := 7) (by omega) (by omega)
    rw [prodTo] at ih
    refine bk_0_5 ⟨fun q => ?_, fun _ => ?_⟩
    · rw [hC.1 1 (by omega), iz_le (by omega) (by omega) (by omega) (by omega)] at q
      omega
    have hsb : ∀ m : Nat, m ≤ 3 → 0 ≤ sumTo (fun k => S (88 + 2 * (3 * i + k))) m ∧ sumTo (fun k => S (88 + 2 * (3 * i + k))) m ≤ 9 * m := by
      intro m
      induction m with
      | zero => intro _; simp [sumTo]
      | succ m ihm =>
        intro hm
        have := ihm (by omega)
        have := (hS.2.2.2.2.2.2.2.2.2.2.2.1 (3 * i + m) (by omega)).2
        rw [sumTo]
        omega
    refine nloop (G := fun k => zGo Γ 0 Q 20 [none, some (zo 7 ts 0), some (zl (lz (prodTo (ptF S) i))), none, some (zi (iz (i : Int))), some (zi (iz (sumTo (fun k => S (88 + 2 * (3 * i + k))) k))), some (zi (iz (k : Int)))] [] M) (n := (S (80 + i)).toNat) ?_ (fun k hk ihk => ?_) (S (80 + i)).toNat 0 (by omega)
    · refine bk_0_20 ⟨v7, ?_⟩
      rw [iz_clN (by omega), hC.2.2.2.2.2.2.2.1 i (by omega), iz_s]
      have hs3 := hsb (S (80 + i)).toNat (by omega)
      refine ⟨fun _ => ⟨v7, ?_⟩, fun q => ?_⟩
      · rw [iz0, iz_le (by omega) (by omega) (by omega) (by omega)]
        unfold ptF at ih
        refine ⟨fun q => ?_, fun q => ?_⟩
        · rw [if_pos q, Int.mul_one] at ih
          exact ih
        · rw [if_neg q] at ih
          rw [iz_lz (by omega) (by omega), lz_mul]
          exact ih
      · rw [iz_le (by omega) (by omega) (by omega) (by omega)] at q
        omega
    · refine bk_0_20 ⟨v7, ?_⟩
      rw [iz_clN (by omega), hC.2.2.2.2.2.2.2.1 i (by omega), show (3 : Int32) = iz 3 from rfl, iz_mul, iz_add, show (i : Int) * 3 + (k : Int) = ((3 * i + k : Nat) : Int) by omega, iz_clN (by omega), hC.2.2.2.2.2.2.2.2.2.1 (3 * i + k) (by omega) (by rw [show (3 * i + k) % 3 = k by omega, show (3 * i + k) / 3 = i by omega]; omega), iz_add, iz_s k]
      refine ⟨fun q => ?_, fun _ => ⟨iz_inN (by omega) (by omega), ?_⟩⟩
      · rw [iz_le (by omega) (by omega) (by omega) (by omega)] at q
        omega
      · rw [sumTo] at ihk
        exact ihk
theorem r_partsNow (hS : SOK S) (hB : rB M b S) (h : Q (some (zl (gParts S))) M) : zEv Γ 223 [zo 10 0 0] M Q := by
  have h7 := hS.2.1
  refine en_223 (bk_223_0 ?_)
  refine nloop (G := fun i => zGo Γ 223 Q 4 [some (zo 10 0 0), some (zl (lz (prodTo (ptF S) i))), none, some (zi (iz (i : Int))), none, none] [] M) (n := (S 1).toNat) ?_ (fun i hi ih => ?_) (S 1).toNat 0 (by omega)
  · refine bk_223_4 ⟨fun _ => h, fun q => ?_⟩
    rw [hB.2.2.1, iz_le (by omega) (by omega) (by omega) (by omega)] at q
    omega
  · have h11 := hS.2.2.2.2.2.2.2.2.2.2.1 i (by omega)
    rw [prodTo] at ih
    refine bk_223_4 ⟨fun q => ?_, fun _ => ?_⟩
    · rw [hB.2.2.1, iz_le (by omega) (by omega) (by omega) (by omega)] at q
      omega
    have hsb : ∀ m : Nat, m ≤ (S (80 + i)).toNat → (m : Int) ≤ sumTo (fun k => S (88 + 2 * (3 * i + k))) m ∧ sumTo (fun k => S (88 + 2 * (3 * i + k))) m ≤ 9 * m := by
      intro m
      induction m with
      | zero => intro _; simp [sumTo]
      | succ m ihm =>
        intro hm
        have := ihm (by omega)
        have := (hS.2.2.2.2.2.2.2.2.2.2.2.1 (3 * i + m) (by omega)).2
        have := h11.2 m (by omega) (by omega)
        rw [sumTo]
        omega
    have e80 : (80 : Int32) + iz (i : Int) = iz ((80 + i : Nat) : Int) := by
      rw [show (80 : Int32) = iz 80 from rfl, iz_add]
      exact congrArg iz (by omega)
    refine nloop (G := fun k => zGo Γ 223 Q 18 [some (zo 10 0 0), some (zl (lz (prodTo (ptF S) i))), none, some (zi (iz (i : Int))), some (zi (iz (sumTo (fun k => S (88 + 2 * (3 * i + k))) k))), some (zi (iz (k : Int)))] [] M) (n := (S (80 + i)).toNat) ?_ (fun k hk ihk => ?_) (S (80 + i)).toNat 0 (by omega)
    · refine bk_223_18 (r_of hB (80 + i) (by omega) e80 ⟨_, rfl, fun _ => ?_, fun q => ?_⟩)
      · have hs3 := hsb (S (80 + i)).toNat (by omega)
        rw [iz0, iz_le (by omega) (by omega) (by omega) (by omega), iz_s]
        unfold ptF at ih
        refine ⟨fun q => ?_, fun q => ?_⟩
        · rw [if_pos (by omega), Int.mul_one] at ih
          exact ih
        · rw [if_neg (by
            intro z
            rw [show (S (80 + i)).toNat = 0 by omega] at q
            exact q (by simp [sumTo]))] at ih
          rw [iz_lz (by omega) (by omega), lz_mul]
          exact ih
      · rw [iz_le (by omega) (by omega) (by omega) (by omega)] at q
        omega
    · have e87 : (87 : Int32) + 6 * iz (i : Int) + 2 * iz (k : Int) + 1 = iz ((88 + 2 * (3 * i + k) : Nat) : Int) := by
        rw [show (87 : Int32) = iz 87 from rfl, show (6 : Int32) = iz 6 from rfl, show (2 : Int32) = iz 2 from rfl, iz1, iz_mul, iz_mul, iz_add, iz_add, iz_add]
        exact congrArg iz (by omega)
      refine bk_223_18 (r_of hB (80 + i) (by omega) e80 ⟨_, rfl, fun q => ?_, fun _ => r_of hB (88 + 2 * (3 * i + k)) (by omega) e87 ⟨_, rfl, ?_⟩⟩)
      · rw [iz_le (by omega) (by omega) (by omega) (by omega)] at q
        omega
      · rw [iz_add, iz_s]
        rw [sumTo] at ihk
        exact ihk
theorem c_parts {x : Int32} (hW : cW M cnt SS) (h : Q (some (zl (fL cnt SS x gParts (-1)))) M) : zEv Γ 130 [zo 9 0 0, zi x] M Q := by
  refine en_130 (bk_130_0 (c_saleAt hW (fun q => Or.inl ⟨rfl, ?_⟩) (fun s hs hx => Or.inr ⟨s, rfl, ?_⟩)))
  · rw [fL_out q] at h
    exact h
  · obtain ⟨hC, hS⟩ := hW.2.2 s hs
    rw [fL_in hs hW.2.1 hx] at h
    exact c_allParts hS hC ⟨_, rfl, h⟩
theorem r_parts {x : Int32} (hW : rW M cnt SS) (h : ∀ M', Kp M M' → Q (some (zl (fL cnt SS x gParts (-1)))) M') : zEv Γ 224 [zo 10 0 0, zi x] M Q := by
  refine en_224 (bk_224_0 (r_isSale hW (fun q => ⟨_, rfl, fun _ => ?_, fun q' => absurd rfl q'⟩) (fun s M1 hs hx o1 hB => ⟨_, rfl, fun q' => absurd q' (by decide), fun _ => ?_⟩)))
  · have := h M (Kp.rf M)
    rw [fL_out q] at this
    exact this
  · have hS := (hW.2.2 s hs).2
    rw [fL_in hs hW.2.1 hx] at h
    exact r_partsNow hS hB ⟨_, rfl, h M1 (Kp.ofR (o1.wk fun _ _ _ _ => rSl_sc))⟩
theorem c_takenWith {bar : Int} (hS : SOK S) (hC : cS M ts S) (hI : lI M 2) (hbar : 0 ≤ bar ∧ bar ≤ 99) (h : ∀ M', Off oCh M M' → lI M' 2 → Q (some (zl (lz (tkA S bar)))) M') : zEv Γ 1 [zo 0 0 0, zo 7 ts 0, zi (iz bar)] M Q := by
  have h7 := hS.2.1
  have h6 := hS.1
  have hN := nB_2187 hS (e := -1)
  have hN0 := nB_pos (B := Bs S (-1)) Bs_pos (S 1).toNat
  refine en_1 (bk_1_0 (c_firstRow hS hC (fun M1 o1 p1 => ⟨rfl, ?_⟩)))
  have z1 : dL (Bs S (-1)) (S 1).toNat 0 = fun _ => 0 := by
    have : ∀ m, dL (Bs S (-1)) m 0 = fun _ => 0 := by
      intro m
      induction m with
      | zero => rfl
      | succ m ih =>
        rw [dL, Nat.zero_div, Nat.zero_mod, ih]
        funext i
        unfold upN
        split <;> rfl
    exact this _
  have key := zloop (P := fun ρ M2 => Off oCh M M2 ∧ lI M2 2 ∧ (ρ < nB (Bs S (-1)) (S 1).toNat → pS M2 S (dL (Bs S (-1)) (S 1).toNat ρ))) (G := fun ρ M2 => zGo Γ 1 Q 13 [some (zo 0 0 0), some (zo 7 ts 0), some (zi (iz bar)), some (zl (lz (tkS S bar ρ))), none, some (zi (iz (if ρ < nB (Bs S (-1)) (S 1).toNat then 1 else 0))), some (zi (iz (ρ : Int)))] [] M2) (n := nB (Bs S (-1)) (S 1).toNat) ?_ ?_ (nB (Bs S (-1)) (S 1).toNat) 0 M1 (by omega) ⟨o1.wk (by unfold oPk oCh; intro c t f i; omega), hI.off o1 (by unfold oPk; intro f i; omega), fun _ => by rw [z1]; exact p1⟩
  · rw [if_pos hN0] at key
    exact key
  · rintro M2 ⟨o2, i2, -⟩
    refine bk_1_13 ⟨fun _ => h M2 o2 i2, fun _ => ⟨fun _ => h M2 o2 i2, fun q => absurd ?_ q⟩⟩
    rw [if_neg (by omega)]
    rfl
  · rintro ρ M2 hρ ⟨o2, i2, p2⟩ ih
    have C2 := hC.off o2 (by unfold oCh; intro f i; omega)
    have p2 := p2 hρ
    have h3 := dL_3 hS (e := -1) (m := (S 1).toNat) (ρ := ρ)
    have hr := rngC hS h3
    refine bk_1_13 ⟨fun q => ?_, fun _ => ⟨fun q => ?_, fun _ => ?_⟩⟩
    · rw [show (2187 : Int32) = iz 2187 from rfl, iz_le (by omega) (by omega) (by omega) (by omega)] at q
      omega
    · rw [if_pos hρ] at q
      exact absurd q (by decide)
    rw [iz_m1]
    refine c_open hS C2 i2 (fun M3 o3 L3 => ⟨rfl, ?_⟩)
    have C3 := C2.off o3 (by unfold cLn; intro f i; omega)
    have p3 := p2.off o3 (by unfold cLn; intro i; omega) (by unfold cLn; intro i; omega)
    refine c_putOthers_0_3 (e := -1) (bd := cBd S (dL (Bs S (-1)) (S 1).toNat ρ)) (mk := mkS S) (n := (S 1).toNat) (by omega) hS (by omega) C3 (fun i hi => (p3 i hi).2) (fun i _ => rfl) hr hbar (L3 _ _) ?_
    intro M4 o4 L4
    refine ⟨rfl, ?_⟩
    rw [ex_no] at L4
    have C4 := C3.off o4 (by unfold cLn; intro f i; omega)
    have p4 := p3.off o4 (by unfold cLn; intro i; omega) (by unfold cLn; intro i; omega)
    have hlen := lin_len (bd := cBd S (dL (Bs S (-1)) (S 1).toNat ρ)) (mk := mkS S) (ex := fun _ => false) (bar := bar) (S 1).toNat
    have i4 := cL.inv hS L4 (by omega)
    have tb := tkB_b hS hr hbar
    refine c_partsOfRow (e := -1) hS C4 (by omega) p4 h3 ⟨_, rfl, c_allPays (nb := (S 0).toNat) hS (by omega) L4 (by omega) hr (fun x hx => (lin_bar hx).1) hbar (fun x hx => (lin_bar hx).2) ⟨_, rfl, c_nextSorts (e := -1) hS C4 (by omega) p4 hρ (fun M5 x o5 k1 k2 => ⟨_, rfl, ?_⟩)⟩⟩
    have o5' : Off oCh M M5 := ((o2.tr (o3.wk (by unfold cLn oCh; intro c t f i; omega))).tr (o4.wk (by unfold cLn oCh; intro c t f i; omega))).tr (o5.wk (by unfold oPk oCh; intro c t f i; omega))
    have nx := ih M5 ⟨o5', i4.off o5 (by unfold oPk; intro f i; omega), fun z => (k1 z).2⟩
    have ex : x = if ρ + 1 < nB (Bs S (-1)) (S 1).toNat then 1 else 0 := by
      by_cases z : ρ + 1 < nB (Bs S (-1)) (S 1).toNat
      · rw [if_pos z]
        exact (k1 z).1
      · rw [if_neg z]
        exact k2 (by omega)
    have et : sumTo (payB S (cBd S (dL (Bs S (-1)) (S 1).toNat ρ)) (mkS S) bar (lin (cBd S (dL (Bs S (-1)) (S 1).toNat ρ)) (mkS S) (fun _ => false) bar (S 1).toNat) (S 0).toNat) (S 0).toNat = tkB S (cBd S (dL (Bs S (-1)) (S 1).toNat ρ)) bar := rfl
    rw [et, iz_lz (by omega) (by omega), lz_mul, lz_add, iz_s, ex]
    exact nx
theorem c_taken {x y : Int32} (hW : cW M cnt SS) (hI : ∀ t, t < 4 → lI M t) (h : ∀ M', Kp M M' → Q (some (zl (fL cnt SS x (fun S => gTaken S y) (-1)))) M') : zEv Γ 131 [zo 9 0 0, zi x, zi y] M Q := by
  refine en_131 (bk_131_0 (c_saleAt hW (fun q => Or.inl ⟨rfl, ?_⟩) (fun s hs hx => Or.inr ⟨s, rfl, ?_⟩)))
  · have := h M (Kp.rf M)
    rw [fL_out q] at this
    exact this
  · obtain ⟨hC, hS⟩ := hW.2.2 s hs
    rw [fL_in hs hW.2.1 hx] at h
    unfold gTaken at h
    refine c_upToTop (fun q => ⟨_, rfl, fun q' => absurd rfl q', fun _ => ?_⟩) (fun m hm hy => ⟨_, rfl, fun _ => ?_, fun q' => absurd q' (by decide)⟩)
    · have h2 := h M (Kp.rf M)
      rw [if_neg (by omega)] at h2
      exact h2
    · subst hy
      rw [iz_toInt (by omega) (by omega), if_pos (by omega)] at h
      exact c_takenWith hS hC (hI 2 (by omega)) (by omega) (fun M1 o1 i1 => ⟨_, rfl, h M1 (Kp.ofC o1 i1)⟩)
end Z66
