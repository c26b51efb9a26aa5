/-! pair: the class and the reference -/
def qP (M : zM) (f : Nat → Int) (k : Nat) : Prop := M.1 6 0 0 6 = iz (pst f k).1 ∧ M.1 6 0 0 7 = iz (((pst f k).2 / 100 : Nat) : Int) ∧ M.1 6 0 0 8 = iz (((pst f k).2 % 100 : Nat) : Int)
def oNg (c t f i : Nat) : Prop := c = 6 ∧ t = 0 ∧ f = 0 ∧ (i = 6 ∨ i = 7 ∨ i = 8)
def oPr (c t _f _i : Nat) : Prop := (c = 2 ∧ t = 1) ∨ (c = 6 ∧ t = 0)
theorem cut_er {l : List Nat} {p v : Nat} (hp : p ≤ l.length) : (l.take p ++ v :: l.drop p).eraseIdx p = l := by
  rw [List.eraseIdx_append_of_length_le (by rw [List.length_take]; omega), List.length_take, show p - min p l.length = 0 by omega, List.eraseIdx_cons_zero, List.take_append_drop]
section Z78
variable {Γ : zC} {Q : zQ} {M : zM} {b ts cnt u v : Nat} {S : SB} {SS : Nat → SB}
theorem qP.off {P : Nat → Nat → Nat → Nat → Prop} {M M' : zM} {f : Nat → Int} {k : Nat} (h : qP M f k) (ho : Off P M M') (hP : ∀ i, i = 6 ∨ i = 7 ∨ i = 8 → ¬ P 6 0 0 i) : qP M' f k := ⟨(ho.1 _ _ _ _ (hP 6 (by omega))).trans h.1, (ho.1 _ _ _ _ (hP 7 (by omega))).trans h.2.1, (ho.1 _ _ _ _ (hP 8 (by omega))).trans h.2.2⟩
theorem c_noteGain {x y : Nat} (hS : SOK S) (hC : cS M ts S) (hu : u < (S 1).toNat) (hv : v < (S 1).toNat) (hx : x < 100) (hy : y < 100) (hL : cL M 1 S (S 3) (bdP S u v (x : Int) (y : Int)) (mkS S) (lin (bdP S u v (x : Int) (y : Int)) (mkS S) (fun _ => false) (S 3) (S 1).toNat)) (hbx : M.1 6 0 2 u = iz (x : Int)) (hq : qP M (pF S u v) (100 * x + y)) (h : ∀ M', Off oNg M M' → qP M' (pF S u v) (100 * x + y + 1) → Q none M') : zEv Γ 99 [zo 6 0 0, zo 7 ts 0, zi (iz (u : Int)), zi (iz (v : Int)), zi (iz (y : Int))] M Q := by
  have h7 := hS.2.1
  have h6 := hS.1
  have hr := rngP hS (u := u) (v := v) (x := (x : Int)) (y := (y : Int)) (by omega) (by omega)
  have hlen := lin_len (bd := bdP S u v (x : Int) (y : Int)) (mk := mkS S) (ex := fun _ => false) (bar := S 3) (S 1).toNat
  have g1 := gnb_b hS hr (i := u) (by omega)
  have g2 := gnb_b hS hr (i := v) (by omega)
  have pb := (pst_b (pF_b hS (u := u) (v := v) (by omega) (by omega)) (100 * x + y) (by omega)).1
  have ef : gnb S (bdP S u v (x : Int) (y : Int)) u + gnb S (bdP S u v (x : Int) (y : Int)) v = pF S u v (100 * x + y) := (pF_at hy).symm
  refine en_99 (bk_99_0 (c_gainOf (nb := (S 0).toNat) hS (by omega) hC hL (by omega) hr (fun x hx => (lin_bar hx).1) (by omega) hS.2.2.2.1 (fun x hx => (lin_bar hx).2) (by omega) ⟨_, rfl, c_gainOf (nb := (S 0).toNat) hS (by omega) hC hL (by omega) hr (fun x hx => (lin_bar hx).1) (by omega) hS.2.2.2.1 (fun x hx => (lin_bar hx).2) (by omega) ⟨_, rfl, ?_⟩⟩))
  have eg : ∀ i, gnS (fun i j => wor S (S (10 + i)) i j) (payB S (bdP S u v (x : Int) (y : Int)) (mkS S) (S 3) (lin (bdP S u v (x : Int) (y : Int)) (mkS S) (fun _ => false) (S 3) (S 1).toNat) (S 0).toNat) (plc (lin (bdP S u v (x : Int) (y : Int)) (mkS S) (fun _ => false) (S 3) (S 1).toNat) (S 0).toNat i) i = gnb S (bdP S u v (x : Int) (y : Int)) i := fun i => rfl
  rw [eg, eg, iz_add, ef, hq.1, iz_le (by omega) (by omega) (by omega) (by omega)]
  refine ⟨fun q => h M (Off.rf M) ?_, fun q => ⟨iz_inN (by omega) (by omega), ?_⟩⟩
  · unfold qP
    rw [pst, if_neg (by omega)]
    exact hq
  · have eb : (zw M 6 0 0 6 (iz (pF S u v (100 * x + y)))).1 6 0 2 (iz (u : Int)).toNatClampNeg = iz (x : Int) := by
      rw [iz_clN (by omega), zw_ne (by omega)]
      exact hbx
    rw [eb]
    refine h _ ((((Off.rf M).w _ (by unfold oNg; omega)).w _ (by unfold oNg; omega)).w _ (by unfold oNg; omega)) ?_
    unfold qP
    rw [pst, if_pos (by omega)]
    refine ⟨by rw [zw_ne (by omega), zw_ne (by omega), zw_eq], ?_, ?_⟩
    · rw [zw_ne (by omega), zw_eq]
      exact congrArg iz (by simp only; omega)
    · rw [zw_eq]
      exact congrArg iz (by simp only; omega)
theorem c_bidBeside {x : Nat} (hS : SOK S) (hC : cS M ts S) (hu : u < (S 1).toNat) (hv : v < (S 1).toNat) (huv : u ≠ v) (hx : x < 100) (hL : cL M 1 S (S 3) (updB (bdS S) u (x : Int)) (mkS S) (linO (updB (bdS S) u (x : Int)) (mkS S) v (S 3) (S 1).toNat)) (hbx : M.1 6 0 2 u = iz (x : Int)) (hq : qP M (pF S u v) (100 * x + 1)) (h : ∀ M', Off (fun c t f i => (c = 2 ∧ t = 1) ∨ oNg c t f i) M M' → lI M' 1 → qP M' (pF S u v) (100 * x + 100) → Q none M') : zEv Γ 98 [zo 6 0 0, zo 7 ts 0, zi (iz (u : Int)), zi (iz (v : Int))] M Q := by
  have h7 := hS.2.1
  have h6 := hS.1
  have h3 := hS.2.2.2.1
  have hr : rng (S 1).toNat (updB (bdS S) u (x : Int)) (mkS S) := rng_upd (i := u) (x := (x : Int)) (rngS hS) (by omega)
  have hlo : ∀ y ∈ linO (updB (bdS S) u (x : Int)) (mkS S) v (S 3) (S 1).toNat, y < (S 1).toNat := fun y hy => (linO_mem.mp hy).1
  have hvlo : v ∉ linO (updB (bdS S) u (x : Int)) (mkS S) v (S 3) (S 1).toNat := fun q => (linO_mem.mp q).2.1 rfl
  have hlen : (linO (updB (bdS S) u (x : Int)) (mkS S) v (S 3) (S 1).toNat).length ≤ 7 := by
    have := lin_len (bd := updB (bdS S) u (x : Int)) (mk := mkS S) (ex := fun k => decide ((k : Int) = (v : Int))) (bar := S 3) (S 1).toNat
    unfold linO
    omega
  have hlen6 : (linO (updB (bdS S) u (x : Int)) (mkS S) v (S 3) (S 1).toNat).length + 1 ≤ 8 := by omega
  have hsr : srt (fun k => updB (bdS S) u (x : Int) k * mkS S k) (linO (updB (bdS S) u (x : Int)) (mkS S) v (S 3) (S 1).toNat) := lin_srt _
  have hmk := hr v hv
  have hmkS : mkS S v = S (24 + v) := rfl
  obtain ⟨s0, hs0⟩ : ∃ s0 : Nat, (s0 : Int) = max 1 (S 3) := ⟨(max 1 (S 3)).toNat, by omega⟩
  -- the bids below the bar
  have low : ∀ d, 1 + d ≤ s0 → pst (pF S u v) (100 * x + (1 + d)) = pst (pF S u v) (100 * x + 1) := by
    intro d
    induction d with
    | zero => intro _; rfl
    | succ d ihd =>
      intro hd
      rw [← ihd (by omega), show 100 * x + (1 + (d + 1)) = 100 * x + (1 + d) + 1 by omega]
      refine pst_skip (j := 100 * x + 0) (by omega) ?_
      rw [pF_at (by omega), pF_at (by omega), pG_low (y := 1 + d) hv huv (by omega) h3.1]
      omega
  have same := fun (y : Nat) (h1 : y + 1 < 100) (h2 : ¬ ((y : Int) < S 3 ∨ (y : Int) = 0)) => pG_same (x := x) (y := y) hS hu hv huv hx h1 h2
  have cut := fun (z : Int) (hz : ¬ (z < S 3 ∨ z = 0)) => lin_cut (S := S) (bd0 := updB (bdS S) u (x : Int)) (v := v) (z := z) hv hz
  have upd := fun (z : Int) (hz : ¬ (z < S 3 ∨ z = 0)) => lin_upd (bd := updB (bdS S) u (x : Int)) (mk := mkS S) (i := v) (n := (S 1).toNat) (bar := S 3) (x := z) hv hz
  have hcg : ∀ z : Int, ∀ y ∈ linO (updB (bdS S) u (x : Int)) (mkS S) v (S 3) (S 1).toNat, updB (bdS S) u (x : Int) y = bdP S u v (x : Int) z y ∧ mkS S y = mkS S y := fun z y hy => ⟨(updB_ne (linO_mem.mp hy).2.1).symm, rfl⟩
  generalize linO (updB (bdS S) u (x : Int)) (mkS S) v (S 3) (S 1).toNat = lo at *
  refine en_98 (bk_98_0 ?_)
  have e1 : (if (1 : Int32) < M.1 2 1 0 7 then M.1 2 1 0 7 else 1) = iz (s0 : Int) := by
    rw [hL.2.2.1, iz1, iz_max (by omega) (by omega) (by omega) (by omega), hs0]
  rw [e1, hL.2.2.2.1, iz_s]
  have hq0 : qP M (pF S u v) (100 * x + s0) := by
    unfold qP
    have := low (s0 - 1) (by omega)
    rw [show 1 + (s0 - 1) = s0 by omega] at this
    rw [this]
    exact hq
  have key := zloop (P := fun y M2 => s0 ≤ y ∧ Off (fun c t f i => (c = 2 ∧ t = 1) ∨ oNg c t f i) M M2 ∧ cL M2 1 S (S 3) (updB (bdS S) u (x : Int)) (mkS S) lo ∧ qP M2 (pF S u v) (100 * x + y)) (G := fun y M2 => zGo Γ 98 Q 24 [some (zo 6 0 0), some (zo 7 ts 0), some (zi (iz (u : Int))), some (zi (iz (v : Int))), some (zi (iz ((if y = s0 then lo.length + 1 else plf (gLe (updB (bdS S) u (x : Int)) (mkS S) lo v (((y - 1 : Nat) : Int) * mkS S v)) lo.length : Nat) : Int))), some (zi (iz (y : Int))), none] [] M2) (n := 100) ?_ ?_ (100 - s0) s0 M (by omega) ⟨by omega, Off.rf M, hL, hq0⟩
  · rw [if_pos rfl] at key
    exact key
  · rintro M2 ⟨_, o2, L2, q2⟩
    exact bk_98_24 ⟨fun _ => h M2 o2 (cL.inv hS L2 (by omega)) q2, fun q => absurd (by decide) q⟩
  · rintro y M2 hy ⟨hsy, o2, L2, q2⟩ ih
    have C2 := hC.off o2 (by unfold oNg; intro f i; omega)
    have emk : M2.1 7 ts 9 v = iz (mkS S v) := C2.2.2.2.2.2.1 v (by omega)
    have hpr : 0 ≤ (y : Int) * mkS S v ∧ (y : Int) * mkS S v ≤ 99 * 9 := ⟨Int.mul_nonneg (by omega) (by omega), Int.mul_le_mul (by omega) hmk.2.2 (by omega) (by omega)⟩
    have hpl := plf_le (g := gLe (updB (bdS S) u (x : Int)) (mkS S) lo v ((y : Int) * mkS S v)) lo.length
    have hyok : ¬ ((y : Int) < S 3 ∨ (y : Int) = 0) := by omega
    have hcut : plf (gLe (updB (bdS S) u (x : Int)) (mkS S) lo v ((y : Int) * mkS S v)) (min (if y = s0 then lo.length + 1 else plf (gLe (updB (bdS S) u (x : Int)) (mkS S) lo v (((y - 1 : Nat) : Int) * mkS S v)) lo.length) lo.length) = plf (gLe (updB (bdS S) u (x : Int)) (mkS S) lo v ((y : Int) * mkS S v)) lo.length := by
      by_cases z : y = s0
      · rw [if_pos z, show min (lo.length + 1) lo.length = lo.length by omega]
      · rw [if_neg z]
        refine (plf_cut lo.length (fun k k1 k2 => ?_)).symm
        refine gLe_mono (s := ((y - 1 : Nat) : Int) * mkS S v) ?_ k (plf_in _ k k1 k2)
        exact Int.mul_le_mul_of_nonneg_right (by omega) (by omega)
    have hp0 : (if y = s0 then lo.length + 1 else plf (gLe (updB (bdS S) u (x : Int)) (mkS S) lo v (((y - 1 : Nat) : Int) * mkS S v)) lo.length) < 100 := by
      have := plf_le (g := gLe (updB (bdS S) u (x : Int)) (mkS S) lo v (((y - 1 : Nat) : Int) * mkS S v)) lo.length
      split <;> omega
    have nx : ∀ M5 : zM, Off (fun c t f i => (c = 2 ∧ t = 1) ∨ oNg c t f i) M M5 → cL M5 1 S (S 3) (updB (bdS S) u (x : Int)) (mkS S) lo → qP M5 (pF S u v) (100 * x + y + 1) → zGo Γ 98 Q 24 [some (zo 6 0 0), some (zo 7 ts 0), some (zi (iz (u : Int))), some (zi (iz (v : Int))), some (zi (iz ((plf (gLe (updB (bdS S) u (x : Int)) (mkS S) lo v ((y : Int) * mkS S v)) lo.length : Nat) : Int))), some (zi (iz (y : Int) + 1)), none] [] M5 := fun M5 o5 L5 q5 => by
      have := ih M5 ⟨by omega, o5, L5, q5⟩
      rw [if_neg (by omega), show y + 1 - 1 = y by omega] at this
      rw [iz_s]
      exact this
    refine bk_98_24 ⟨fun q => ?_, fun _ => ⟨iz_inN (by omega) (by omega), ?_⟩⟩
    · rw [show (99 : Int32) = iz 99 from rfl, iz_lt (by omega) (by omega) (by omega) (by omega)] at q
      omega
    rw [iz_clN (show v < 2147483648 by omega), emk, iz_mul]
    refine c_placeFrom (n := (S 1).toNat) L2 (by omega) hr hlo (by omega) (by omega) hp0 (by omega) ⟨_, rfl, ?_⟩
    rw [hcut, iz_le (by omega) (by omega) (by omega) (by omega)]
    refine ⟨fun q => nx M2 o2 L2 ?_, fun q => ⟨iz_inN (by omega) (by omega), ?_⟩⟩
    · by_cases z : y = s0
      · rw [if_pos z] at q
        omega
      · rw [if_neg z] at q hcut
        have hple := plf_le (g := gLe (updB (bdS S) u (x : Int)) (mkS S) lo v ((y : Int) * mkS S v)) (min (plf (gLe (updB (bdS S) u (x : Int)) (mkS S) lo v (((y - 1 : Nat) : Int) * mkS S v)) lo.length) lo.length)
        rw [hcut] at hple
        have hs := same (y - 1) (by omega) (by omega)
        rw [show y - 1 + 1 = y by omega] at hs
        have hs := hs (by omega)
        unfold qP
        rw [pst_skip (j := 100 * x + (y - 1)) (by omega) (by rw [pF_at hy, pF_at (by omega)]; exact hs)]
        exact q2
    · rw [emk]
      have hbP : bdP S u v (x : Int) (y : Int) v = (y : Int) := updB_eq
      have L2' := L2.congr (hcg (y : Int))
      have hrP := rngP hS (u := u) (v := v) (x := (x : Int)) (y := (y : Int)) (by omega) (by omega)
      have hsP : srt (fun k => bdP S u v (x : Int) (y : Int) k * mkS S k) lo := srt_congr hsr (fun z hz => by rw [(hcg (y : Int) z hz).1])
      have put := c_putIn (Γ := Γ) (Q := fun o M2_1 => ∃ r2, o = some (zi r2) ∧ zEv Γ 99 [zo 6 0 0, zo 7 ts 0, zi (iz (u : Int)), zi (iz (v : Int)), zi (iz (y : Int))] M2_1 (fun o M3 => o = none ∧ zEv Γ 21 [zo 2 1 0, zi (iz ((plf (gLe (updB (bdS S) u (x : Int)) (mkS S) lo v ((y : Int) * mkS S v)) lo.length : Nat) : Int))] M3 (fun o M4 => o = none ∧ zGo Γ 98 Q 24 [some (zo 6 0 0), some (zo 7 ts 0), some (zi (iz (u : Int))), some (zi (iz (v : Int))), some (zi (iz ((plf (gLe (updB (bdS S) u (x : Int)) (mkS S) lo v ((y : Int) * mkS S v)) lo.length : Nat) : Int))), some (zi (iz (y : Int) + 1)), none] [] M4))) (i := v) (n := (S 1).toNat) L2' (by omega) hsP hrP hlo (by omega) hv hvlo h3 (fun z => absurd (by rw [hbP] at z; exact z) hyok) (fun _ p M3 o3 hp e3 L3 => ⟨_, rfl, ?_⟩)
      · rw [hbP] at put
        exact put
      · have eln := upd (y : Int) hyok
        have L3' : cL M3 1 S (S 3) (bdP S u v (x : Int) (y : Int)) (mkS S) (lin (bdP S u v (x : Int) (y : Int)) (mkS S) (fun _ => false) (S 3) (S 1).toNat) := by
          unfold bdP at L3 ⊢
          rw [eln]
          exact L3
        have C3 := C2.off o3 (by unfold cLn; intro f i; omega)
        have b3 : M3.1 6 0 2 u = iz (x : Int) := ((o3.1 _ _ _ _ (by unfold cLn; omega)).trans (o2.1 _ _ _ _ (by unfold oNg; omega))).trans hbx
        refine c_noteGain hS C3 hu hv hx hy L3' b3 (q2.off o3 (by unfold cLn; intro i _; omega)) (fun M4 o4 q4 => ⟨rfl, ?_⟩)
        have L4 := L3'.off o4 (by unfold oNg; intro f i; omega)
        have ec := cut (y : Int) hyok
        have L4 : cL M4 1 S (S 3) (bdP S u v (x : Int) (y : Int)) (mkS S) (lo.take (plf (gLe (updB (bdS S) u (x : Int)) (mkS S) lo v ((y : Int) * mkS S v)) lo.length) ++ v :: lo.drop (plf (gLe (updB (bdS S) u (x : Int)) (mkS S) lo v ((y : Int) * mkS S v)) lo.length)) := by
          rw [← ec]
          exact L4
        have hcl : (lo.take (plf (gLe (updB (bdS S) u (x : Int)) (mkS S) lo v ((y : Int) * mkS S v)) lo.length) ++ v :: lo.drop (plf (gLe (updB (bdS S) u (x : Int)) (mkS S) lo v ((y : Int) * mkS S v)) lo.length)).length = lo.length + 1 := by
          rw [List.length_append, List.length_cons, List.length_take, List.length_drop]
          omega
        refine c_dropAt L4 (by omega) (by omega) (fun M5 o5 L5 => ⟨rfl, ?_⟩)
        rw [cut_er hpl] at L5
        exact nx M5 (((o2.tr (o3.wk (by unfold cLn; intro c t f i; omega))).tr (o4.wk (fun _ _ _ _ z => Or.inr z))).tr (o5.wk (by unfold cLn; intro c t f i; omega))) (L5.congr (fun z hz => ⟨(hcg (y : Int) z hz).1.symm, rfl⟩)) (q4.off o5 (by unfold cLn; intro i _; omega))
theorem c_bidAsOne (hS : SOK S) (hC : cS M ts S) (hI : lI M 1) (hu : u < (S 1).toNat) (hv : v < (S 1).toNat) (huv : u ≠ v) (h : ∀ M', Off oPr M M' → lI M' 1 → qP M' (pF S u v) 10000 → Q none M') : zEv Γ 97 [zo 6 0 0, zo 7 ts 0, zi (iz (u : Int)), zi (iz (v : Int))] M Q := by
  have h7 := hS.2.1
  have h6 := hS.1
  refine en_97 (bk_97_0 (c_lookAt (fun M1 o1 b1 => ⟨rfl, ?_⟩)))
  have o1' : Off oPr M (zw (zw (zw M1 6 0 0 6 0) 6 0 0 7 0) 6 0 0 8 0) := (((o1.wk (by unfold oPr; intro c t f i; omega)).w _ (Or.inr ⟨rfl, rfl⟩)).w _ (Or.inr ⟨rfl, rfl⟩)).w _ (Or.inr ⟨rfl, rfl⟩)
  have ow : Off (fun c t f i => c = 6 ∧ t = 0 ∧ f = 0) M1 (zw (zw (zw M1 6 0 0 6 0) 6 0 0 7 0) 6 0 0 8 0) := (((Off.rf M1).w _ ⟨rfl, rfl, rfl⟩).w _ ⟨rfl, rfl, rfl⟩).w _ ⟨rfl, rfl, rfl⟩
  refine zloop (P := fun x M2 => Off oPr M M2 ∧ lI M2 1 ∧ (∀ i, i < (S 1).toNat → i ≠ u → M2.1 6 0 2 i = iz (bdS S i)) ∧ qP M2 (pF S u v) (100 * x)) (G := fun x M2 => zGo Γ 97 Q 23 [some (zo 6 0 0), some (zo 7 ts 0), some (zi (iz (u : Int))), some (zi (iz (v : Int))), some (zi (iz (x : Int)))] [] M2) (n := 100) ?_ ?_ 100 0 _ (by omega) ⟨o1', (hI.off o1 (by intro f i; omega)).off ow (by intro f i; omega), fun i hi _ => ?_, ?_⟩
  · rintro M2 ⟨o2, i2, -, q2⟩
    exact bk_97_23 ⟨fun _ => h M2 o2 i2 q2, fun q => absurd (by decide) q⟩
  · rintro x M2 hx ⟨o2, i2, b2, q2⟩ ih
    have C2 := hC.off o2 (by unfold oPr; intro f i; omega)
    refine bk_97_23 ⟨fun q => ?_, fun _ => ⟨iz_inN (by omega) (by omega), ?_⟩⟩
    · rw [show (99 : Int32) = iz 99 from rfl, iz_lt (by omega) (by omega) (by omega) (by omega)] at q
      omega
    rw [iz_clN (by omega)]
    have ow2 : Off (fun c t f i => c = 6 ∧ t = 0 ∧ f = 2) M2 (zw M2 6 0 2 u (iz (x : Int))) := (Off.rf M2).w _ ⟨rfl, rfl, rfl⟩
    have C3 := C2.off ow2 (by intro f i; omega)
    rw [C3.1 3 (by omega)]
    have b3 : ∀ i, i < (S 1).toNat → (zw M2 6 0 2 u (iz (x : Int))).1 6 0 2 i = iz (updB (bdS S) u (x : Int) i) := fun i hi => by
      by_cases e : i = u
      · rw [e, zw_eq, updB_eq]
      · rw [zw_ne (by omega), updB_ne e]
        exact b2 i hi e
    have hr : rng (S 1).toNat (updB (bdS S) u (x : Int)) (mkS S) := rng_upd (i := u) (x := (x : Int)) (rngS hS) (by omega)
    refine c_open hS C3 (i2.off ow2 (by intro f i; omega)) (fun M4 o4 L4 => ⟨rfl, ?_⟩)
    have C4 := C3.off o4 (by unfold cLn; intro f i; omega)
    refine c_putOthers_6_2 (e := (v : Int)) (bd := updB (bdS S) u (x : Int)) (mk := mkS S) (n := (S 1).toNat) (by omega) hS (by omega) C4 (fun i hi => (o4.1 _ _ _ _ (by unfold cLn; omega)).trans (b3 i hi)) (fun i _ => rfl) hr hS.2.2.2.1 (L4 _ _) (fun M5 o5 L5 => ⟨rfl, ?_⟩)
    have C5 := C4.off o5 (by unfold cLn; intro f i; omega)
    have L5 : cL M5 1 S (S 3) (updB (bdS S) u (x : Int)) (mkS S) (linO (updB (bdS S) u (x : Int)) (mkS S) v (S 3) (S 1).toNat) := L5
    have eq0 : lin (bdP S u v (x : Int) ((0 : Nat) : Int)) (mkS S) (fun _ => false) (S 3) (S 1).toNat = linO (updB (bdS S) u (x : Int)) (mkS S) v (S 3) (S 1).toNat := by
      unfold bdP
      rw [lin_na (i := v) (by rw [updB_eq]; exact Or.inr rfl)]
      exact linO_congr (fun k _ hk => ⟨updB_ne hk, rfl⟩)
    have L5' : cL M5 1 S (S 3) (bdP S u v (x : Int) ((0 : Nat) : Int)) (mkS S) (lin (bdP S u v (x : Int) ((0 : Nat) : Int)) (mkS S) (fun _ => false) (S 3) (S 1).toNat) := by
      rw [eq0]
      exact L5.congr (fun y hy => ⟨(updB_ne (linO_mem.mp hy).2.1).symm, rfl⟩)
    have bu5 : M5.1 6 0 2 u = iz (x : Int) := by
      rw [o5.1 _ _ _ _ (by unfold cLn; omega), o4.1 _ _ _ _ (by unfold cLn; omega), zw_eq]
    have q5 : qP M5 (pF S u v) (100 * x + 0) := ((q2.off ow2 (by intro i _; omega)).off o4 (by unfold cLn; intro i _; omega)).off o5 (by unfold cLn; intro i _; omega)
    refine c_noteGain (y := 0) hS C5 hu hv hx (by omega) L5' bu5 q5 (fun M6 o6 q6 => ⟨rfl, ?_⟩)
    have C6 := C5.off o6 (by unfold oNg; intro f i; omega)
    refine c_bidBeside hS C6 hu hv huv hx (L5.off o6 (by unfold oNg; intro f i; omega)) ((o6.1 _ _ _ _ (by unfold oNg; omega)).trans bu5) q6 (fun M7 o7 i7 q7 => ⟨rfl, ?_⟩)
    rw [iz_s]
    refine ih M7 ⟨((((o2.tr (ow2.wk (by unfold oPr; intro c t f i; omega))).tr (o4.wk (by unfold cLn oPr; intro c t f i; omega))).tr (o5.wk (by unfold cLn oPr; intro c t f i; omega))).tr (o6.wk (by unfold oNg oPr; intro c t f i; omega))).tr (o7.wk (by unfold oNg oPr; intro c t f i; omega)), i7, fun i hi hne => ?_, by rw [show 100 * (x + 1) = 100 * x + 100 by omega]; exact q7⟩
    rw [o7.1 _ _ _ _ (by unfold oNg; omega), o6.1 _ _ _ _ (by unfold oNg; omega), o5.1 _ _ _ _ (by unfold cLn; omega), o4.1 _ _ _ _ (by unfold cLn; omega), zw_ne (by omega)]
    exact b2 i hi hne
  · rw [ow.1 _ _ _ _ (by omega), b1 i (by omega)]
    exact hC.2.2.2.2.1 i (by omega)
  · have e0 : pst (pF S u v) (100 * 0) = (0, 0) := rfl
    refine ⟨?_, ?_, ?_⟩
    · rw [zw_ne (by omega), zw_ne (by omega), zw_eq, e0]
      rfl
    · rw [zw_ne (by omega), zw_eq, e0]
      decide
    · rw [zw_eq, e0]
      decide
end Z78
