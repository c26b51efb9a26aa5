/-! sale: class and reference together -/
def kdV (κ : Nat) (r : zV) : Prop := match κ with
  | 0 => ∃ v : Int32, r = zi v
  | _ => ∃ v : Int64, r = zl v
def Both (Γ : zC) (κ μc μr : Nat) (as : List zV) : Prop := ∀ (M : zM) (Q : zQ), Inv M → (∀ (r : zV) (M1 : zM), kdV κ r → zEv Γ μr (zo 10 0 0 :: as) M1 (fun o M2 => o = some r ∧ Inv M2) → Q (some r) M1) → zEv Γ μc (zo 9 0 0 :: as) M Q
def oCs (c t f i : Nat) : Prop := (c = 5 ∧ t = 0) ∨ (c = 7 ∧ t = 12) ∨ (c = 8 ∧ t = 0 ∧ f = 0 ∧ (i = 1 ∨ i = 2 ∨ i = 3))
def oCw (s c t f i : Nat) : Prop := (c = 5 ∧ t = 0) ∨ (c = 7 ∧ (t = 12 ∨ t = s)) ∨ (c = 8 ∧ t = 0 ∧ f = 0 ∧ (i = 1 ∨ i = 2 ∨ i = 3 ∨ i = 4))
def tpS (M : zM) (p : Nat) : Int := (M.1 8 0 1 p &&& 255).toInt
theorem tpS_ok {M : zM} {cnt len : Nat} {SS : Nat → SB} (h : sR M 0 cnt len SS) (p : Nat) (hp : p < len) : M.1 8 0 1 p = iz (sb (tpS M p)) ∧ M.1 10 0 1 (10 + p) = iz (tpS M p) ∧ 0 ≤ tpS M p ∧ tpS M p ≤ 255 := by
  have h5 := h.2.1.2.2
  obtain ⟨c, h1, h2, h3, h4⟩ := byt (h.2.2.2.2.2.1 p (by omega))
  have e : tpS M p = c := by
    unfold tpS
    rw [h4, iz_toInt (by omega) (by omega)]
  have e2 := h.2.2.2.2.1 p hp
  rw [show 1290 * 0 + 10 + p = 10 + p by omega] at e2
  rw [e]
  exact ⟨h3, e2.trans h4, h1, h2⟩
section Za6
variable {Γ : zC} {Q : zQ} {M : zM}
theorem c_sale {x : Int32} {cnt len : Nat} {SS : Nat → SB} (hsr : zSr Γ) (h : sR M 0 cnt len SS)
    (hf : ((x = -1 ∧ cnt = 3) ∨ (x ≠ -1 ∧ (x.toInt < 0 ∨ (cnt : Int) ≤ x.toInt))) → ∀ M', Off oCs M M' → M'.1 8 0 0 1 = 0 → M'.1 8 0 0 2 = 0 → M'.1 8 0 0 3 = iz (-1) → Q (some (zi (-2))) M')
    (hg : ∀ s N : Nat, s < 3 → ((x = -1 ∧ s = cnt) ∨ (x ≠ -1 ∧ x = iz (s : Int) ∧ s < cnt)) → (∀ j, j < N → ¬ qEnd (tpS M) len I0 j) → qEnd (tpS M) len I0 N → N ≤ 500 → ((lnQ (tpS M) len I0 N).1.1 = true → (lnQ (tpS M) len I0 N).1.2.2.1 = 1) → (0 ≤ (qFin len (lnQ (tpS M) len I0 N)).1 ∧ (qFin len (lnQ (tpS M) len I0 N)).1 ≤ 5) → ((qFin len (lnQ (tpS M) len I0 N)).1 ≠ 0 → ∀ M', Off oCs M M' → M'.1 8 0 0 1 = 0 → M'.1 8 0 0 2 = iz (qFin len (lnQ (tpS M) len I0 N)).1 → M'.1 8 0 0 3 = iz (qFin len (lnQ (tpS M) len I0 N)).2 → Q (some (zi (-1))) M') ∧ ((qFin len (lnQ (tpS M) len I0 N)).1 = 0 → ∀ M', Off (oCw s) M M' → M'.1 8 0 0 1 = 0 → M'.1 8 0 0 2 = iz (qFin len (lnQ (tpS M) len I0 N)).1 → M'.1 8 0 0 3 = iz (qFin len (lnQ (tpS M) len I0 N)).2 → M'.1 8 0 0 4 = iz (if x = -1 then (cnt : Int) + 1 else (cnt : Int)) → cS M' s (lnQ (tpS M) len I0 N).2 → SOK (lnQ (tpS M) len I0 N).2 → Q (some (zi (iz (s : Int)))) M')) : zEv Γ 110 [zo 9 0 0, zi x] M Q := by
  have hW := h.cW
  have c3 := hW.2.1
  have hlen := h.2.1
  have o0 : Off oCs M (zw (zw M 8 0 0 2 0) 8 0 0 3 (-1)) := ((Off.rf M).w _ (by unfold oCs; omega)).w _ (by unfold oCs; omega)
  have o0' : Off (fun c _ _ _ => c = 8) M (zw (zw M 8 0 0 2 0) 8 0 0 3 (-1)) := ((Off.rf M).w _ rfl).w _ rfl
  have a4 : (zw (zw M 8 0 0 2 0) 8 0 0 3 (-1)).1 8 0 0 4 = iz (cnt : Int) := ((zw_ne (by omega)).trans (zw_ne (by omega))).trans hW.1
  have a2 : (zw (zw M 8 0 0 2 0) 8 0 0 3 (-1)).1 8 0 0 2 = 0 := (zw_ne (by omega)).trans zw_eq
  have a3 : (zw (zw M 8 0 0 2 0) 8 0 0 3 (-1)).1 8 0 0 3 = iz (-1) := zw_eq
  have a1 : (zw (zw M 8 0 0 2 0) 8 0 0 3 (-1)).1 8 0 0 1 = iz (len : Int) := ((zw_ne (by omega)).trans (zw_ne (by omega))).trans hlen.1
  have hW0 : cW (zw (zw M 8 0 0 2 0) 8 0 0 3 (-1)) cnt SS := ⟨a4, c3, fun s hs => ⟨(hW.2.2 s hs).1.off o0' (by intro f i; omega), (hW.2.2 s hs).2⟩⟩
  have hT0 : cTp (zw (zw M 8 0 0 2 0) 8 0 0 3 (-1)) (tpS M) len := ⟨a1, hlen.2.2, fun p hp => ⟨((zw_ne (by omega)).trans (zw_ne (by omega))).trans (tpS_ok h p hp).1, (tpS_ok h p hp).2.2⟩⟩
  generalize hM0 : zw (zw M 8 0 0 2 0) 8 0 0 3 (-1) = M0 at *
  have bad : ((x = -1 ∧ cnt = 3) ∨ (x ≠ -1 ∧ (x.toInt < 0 ∨ (cnt : Int) ≤ x.toInt))) → Q (some (zi (-2))) (zw M0 8 0 0 1 0) := fun z => hf z _ (o0.w _ (by unfold oCs; omega)) zw_eq ((zw_ne (by omega)).trans a2) ((zw_ne (by omega)).trans a3)
  have rest : ∀ (s : Nat) (xb : Int32), s < 3 → ((x = -1 ∧ s = cnt ∧ xb = 1) ∨ (x ≠ -1 ∧ x = iz (s : Int) ∧ s < cnt ∧ xb = 0)) → zGo Γ 110 Q 64 [some (zo 9 0 0), some (zi x), some (zi xb), none] [] M0 := by
    intro s xb hs hx
    refine bk_110_64 (c_readText hsr hT0 (fun M1 N o1 hN5 hN0 hN hwf e1 e2 fb hok => ⟨rfl, ?_⟩))
    have hgg := hg s N hs (by rcases hx with y | y; exact Or.inl ⟨y.1, y.2.1⟩; exact Or.inr ⟨y.1, y.2.1, y.2.2.1⟩) hN0 hN hN5 hwf fb
    have b1 : ∀ y, (zw M1 8 0 0 1 y).1 5 0 0 1 = iz (qFin len (lnQ (tpS M) len I0 N)).1 := fun y => (zw_ne (by omega)).trans e1
    have b2 : ∀ y z, (zw (zw M1 8 0 0 1 y) 8 0 0 2 z).1 5 0 0 2 = iz (qFin len (lnQ (tpS M) len I0 N)).2 := fun y z => ((zw_ne (by omega)).trans (zw_ne (by omega))).trans e2
    simp only [b1, b2]
    have o5 : Off oCs M (zw (zw (zw M1 8 0 0 1 0) 8 0 0 2 (iz (qFin len (lnQ (tpS M) len I0 N)).1)) 8 0 0 3 (iz (qFin len (lnQ (tpS M) len I0 N)).2)) := (((o0.tr (o1.wk (by unfold oTx oCs; intro c t f i; omega))).w _ (by unfold oCs; omega)).w _ (by unfold oCs; omega)).w _ (by unfold oCs; omega)
    have o5' : Off (fun c _ _ _ => c = 8) M1 (zw (zw (zw M1 8 0 0 1 0) 8 0 0 2 (iz (qFin len (lnQ (tpS M) len I0 N)).1)) 8 0 0 3 (iz (qFin len (lnQ (tpS M) len I0 N)).2)) := (((Off.rf M1).w _ rfl).w _ rfl).w _ rfl
    have d1 : (zw (zw (zw M1 8 0 0 1 0) 8 0 0 2 (iz (qFin len (lnQ (tpS M) len I0 N)).1)) 8 0 0 3 (iz (qFin len (lnQ (tpS M) len I0 N)).2)).1 8 0 0 1 = 0 := ((zw_ne (by omega)).trans (zw_ne (by omega))).trans zw_eq
    have d2 : (zw (zw (zw M1 8 0 0 1 0) 8 0 0 2 (iz (qFin len (lnQ (tpS M) len I0 N)).1)) 8 0 0 3 (iz (qFin len (lnQ (tpS M) len I0 N)).2)).1 8 0 0 2 = iz (qFin len (lnQ (tpS M) len I0 N)).1 := (zw_ne (by omega)).trans zw_eq
    have d3 : (zw (zw (zw M1 8 0 0 1 0) 8 0 0 2 (iz (qFin len (lnQ (tpS M) len I0 N)).1)) 8 0 0 3 (iz (qFin len (lnQ (tpS M) len I0 N)).2)).1 8 0 0 3 = iz (qFin len (lnQ (tpS M) len I0 N)).2 := zw_eq
    have d4 : (zw (zw (zw M1 8 0 0 1 0) 8 0 0 2 (iz (qFin len (lnQ (tpS M) len I0 N)).1)) 8 0 0 3 (iz (qFin len (lnQ (tpS M) len I0 N)).2)).1 8 0 0 4 = iz (cnt : Int) := (o5.1 _ _ _ _ (by unfold oCs; omega)).trans hW.1
    have hok5 : (qFin len (lnQ (tpS M) len I0 N)).1 = 0 → cS (zw (zw (zw M1 8 0 0 1 0) 8 0 0 2 (iz (qFin len (lnQ (tpS M) len I0 N)).1)) 8 0 0 3 (iz (qFin len (lnQ (tpS M) len I0 N)).2)) 12 (lnQ (tpS M) len I0 N).2 := fun z => (hok z).1.off o5' (by intro f i; omega)
    generalize zw (zw (zw M1 8 0 0 1 0) 8 0 0 2 (iz (qFin len (lnQ (tpS M) len I0 N)).1)) 8 0 0 3 (iz (qFin len (lnQ (tpS M) len I0 N)).2) = M5 at *
    rw [d2, d4, show (iz (qFin len (lnQ (tpS M) len I0 N)).1 = 0) = ((qFin len (lnQ (tpS M) len I0 N)).1 = 0) by rw [iz0, iz_eq (by omega) (by omega) (by omega) (by omega)]]
    refine ⟨fun q0 => ?_, fun q0 => hgg.1 q0 M5 o5 d1 d2 d3⟩
    have hk := hgg.2 q0
    have ow : Off (oCw s) M M5 := o5.wk (by unfold oCs oCw; intro c t f i; omega)
    rcases hx with ⟨xe, es, rfl⟩ | ⟨xn, xs, hsc, rfl⟩
    · subst es
      refine ⟨fun z => absurd z (by decide), fun _ => ?_⟩
      rw [iz_clN (by omega), show 3 * 0 + s = s by omega]
      refine ⟨iz_inN (by omega) (by omega), c_copySale (by omega) (fun M6 o6 c6 => ⟨rfl, fun z => absurd z (by decide), fun _ => ?_⟩)⟩
      have o6' : Off (oCw s) M M6 := ow.tr (o6.wk (by unfold oSale oCw; intro c t f i; omega))
      have g4 : M6.1 8 0 0 4 = iz (s : Int) := (o6.1 _ _ _ _ (by unfold oSale; omega)).trans d4
      rw [g4, iz1, iz_add]
      refine hk _ (o6'.w _ (by unfold oCw; omega)) (((zw_ne (by omega)).trans (o6.1 _ _ _ _ (by unfold oSale; omega))).trans d1) (((zw_ne (by omega)).trans (o6.1 _ _ _ _ (by unfold oSale; omega))).trans d2) (((zw_ne (by omega)).trans (o6.1 _ _ _ _ (by unfold oSale; omega))).trans d3) ?_ ((c6 _ (hok5 q0)).off (P := fun c _ _ _ => c = 8) ((Off.rf M6).w _ rfl) (by intro f i; omega)) (hok q0).2
      rw [zw_eq, if_pos xe]
    · subst xs
      refine ⟨fun _ => ?_, fun z => absurd rfl z⟩
      rw [iz_clN (by omega), show 3 * 0 + s = s by omega]
      refine ⟨iz_inN (by omega) (by omega), c_copySale (by omega) (fun M6 o6 c6 => ⟨rfl, fun _ => ?_, fun z => absurd rfl z⟩)⟩
      have o6' : Off (oCw s) M M6 := ow.tr (o6.wk (by unfold oSale oCw; intro c t f i; omega))
      refine hk M6 o6' ((o6.1 _ _ _ _ (by unfold oSale; omega)).trans d1) ((o6.1 _ _ _ _ (by unfold oSale; omega)).trans d2) ((o6.1 _ _ _ _ (by unfold oSale; omega)).trans d3) ?_ (c6 _ (hok5 q0)) (hok q0).2
      rw [if_neg xn]
      exact (o6.1 _ _ _ _ (by unfold oSale; omega)).trans d4
  refine en_110 (bk_110_0 ?_)
  rw [hM0]
  refine ⟨fun xn => ⟨fun _ => ?_, fun z => absurd rfl z⟩, fun xe => ⟨fun z => absurd z (by decide), fun _ => ?_⟩⟩
  · refine c_saleAt hW0 (fun q => Or.inl ⟨rfl, bad (Or.inr ⟨xn, q⟩)⟩) (fun s hs hx => Or.inr ⟨s, rfl, rest s 0 (by omega) (Or.inr ⟨xn, hx, hs, rfl⟩)⟩)
  · rw [a4, show (iz (cnt : Int) < 3) = (cnt < 3) by rw [show (3 : Int32) = iz 3 from rfl, iz_lt (by omega) (by omega) (by omega) (by omega)]; exact propext ⟨fun z => by omega, fun z => by omega⟩]
    exact ⟨fun q => rest cnt 1 q (Or.inl ⟨xe, rfl, rfl⟩), fun q => bad (Or.inl ⟨xe, by omega⟩)⟩
/-- what holds behind a sale -/
theorem inv_sale {M1 M2 : zM} {cnt len s : Nat} {SS : Nat → SB} (hI : Inv M) (h : sR M 0 cnt len SS) (hs : s < 3) (o1 : Off (oCw s) M M1) (o2 : Off (oRsw s) M1 M2) (hn : ∃ cnt len SS, sR M2 0 cnt len SS) : Inv M2 := by
  have e : ∀ c t f i, ¬ oCw s c t f i → ¬ oRsw s c t f i → M2.1 c t f i = M.1 c t f i := fun c t f i a b => (o2.1 _ _ _ _ b).trans (o1.1 _ _ _ _ a)
  refine Inv.now hI hn (fun k f i h1 h2 => e _ _ _ _ (by unfold oCw; omega) (by unfold oRsw; omega)) (fun t f i h1 h2 => e _ _ _ _ (by unfold oCw; omega) (by unfold oRsw; omega)) (fun i h1 => e _ _ _ _ (by unfold oCw; omega) (by unfold oRsw; omega)) (fun i => e _ _ _ _ (by unfold oCw; omega) (by unfold oRsw; omega)) (fun i => e _ _ _ _ (by unfold oCw; omega) (by unfold oRsw; omega)) (lI_eq (fun t f i => e _ _ _ _ (by unfold oCw; omega) (by unfold oRsw; omega))) (e _ _ _ _ (by unfold oCw; omega) (by unfold oRsw; omega))
theorem both_sale {x : Int32} (hsr : zSr Γ) : Both Γ 0 110 175 [zi x] := by
  intro M Q hI hQ
  obtain ⟨cnt, len, SS, h⟩ := hI.1
  have h0 := h.1
  have h1 := h.2.1
  have rc : ∀ {M1 : zM} {s : Nat}, Off (oCw s) M M1 → M1.1 10 0 1 0 = iz (cnt : Int) := fun o => (o.1 _ _ _ _ (by unfold oCw; omega)).trans h0.2.1
  have rl : ∀ {M1 : zM} {s : Nat}, Off (oCw s) M M1 → M1.1 10 0 1 1 = iz (len : Int) := fun o => (o.1 _ _ _ _ (by unfold oCw; omega)).trans h1.2.1
  have rt : ∀ {M1 : zM} {s : Nat}, Off (oCw s) M M1 → ∀ p, p < len → M1.1 10 0 1 (10 + p) = iz (tpS M p) ∧ 0 ≤ tpS M p ∧ tpS M p ≤ 255 := fun o p hp => ⟨(o.1 _ _ _ _ (by unfold oCw; omega)).trans (tpS_ok h p hp).2.1, (tpS_ok h p hp).2.2⟩
  have ocw : ∀ {M1 : zM} (s : Nat), Off oCs M M1 → Off (oCw s) M M1 := fun s o => o.wk (by unfold oCs oCw; intro c t f i; omega)
  -- the state where no sale is made
  have same : ∀ {M1 M2 : zM} (f p : Int), Off oCs M M1 → Off oRs M1 M2 → M1.1 8 0 0 1 = 0 → M1.1 8 0 0 2 = iz f → M1.1 8 0 0 3 = iz p → M2.1 10 0 1 1 = 0 → M2.1 10 0 1 2 = iz f → M2.1 10 0 1 3 = iz p → Inv M2 := fun {M1 M2} f p o1 o2 c1 c2 c3 r1 r2 r3 => by
    have e : ∀ c t f i, ¬ oCs c t f i → ¬ oRs c t f i → M2.1 c t f i = M.1 c t f i := fun c t f i a b => (o2.1 _ _ _ _ b).trans (o1.1 _ _ _ _ a)
    refine inv_sale (s := 0) hI h (by omega) (ocw 0 o1) (o2.wk fun _ _ _ _ => oRs_w) ⟨cnt, 0, SS, ⟨⟨(e _ _ _ _ (by unfold oCs; omega) (by unfold oRs; omega)).trans h0.1, (e _ _ _ _ (by unfold oCs; omega) (by unfold oRs; omega)).trans h0.2.1, h0.2.2⟩, ⟨((o2.1 _ _ _ _ (by unfold oRs; omega)).trans c1).trans iz0, r1.trans iz0, by omega⟩, ?_, ?_, fun i hi => by omega, fun i hi => ?_, fun s hs => ⟨?_, fun i hi => ?_, (h.2.2.2.2.2.2 s hs).2.2⟩⟩⟩
    · rw [show 1290 * 0 + 2 = 2 by omega, r2, o2.1 _ _ _ _ (by unfold oRs; omega), c2]
    · rw [show 1290 * 0 + 3 = 3 by omega, r3, o2.1 _ _ _ _ (by unfold oRs; omega), c3]
    · rw [e _ _ _ _ (by unfold oCs; omega) (by unfold oRs; omega)]
      exact h.2.2.2.2.2.1 i hi
    · exact ((h.2.2.2.2.2.2 s hs).1.off o1 (by unfold oCs; intro f i; omega)).off o2 (by unfold oRs; intro f i; omega)
    · rw [e _ _ _ _ (by unfold oCs; omega) (by unfold oRs; omega)]
      exact (h.2.2.2.2.2.2 s hs).2.1 i hi
  refine c_sale hsr h (fun hb M1 o1 c1 c2 c3 => hQ _ _ ⟨_, rfl⟩ ?_) (fun s N hs hx hN0 hN hN5 hwf fb => ⟨fun q0 M1 o1 c1 c2 c3 => hQ _ _ ⟨_, rfl⟩ ?_, fun q0 M1 o1 c1 c2 c3 c4 cs sok => hQ _ _ ⟨_, rfl⟩ ?_⟩)
  · refine r_sale (tp := tpS M) (N := 0) (rc (ocw 0 o1)) h0.2.2 (rl (ocw 0 o1)) h1.2.2 (rt (ocw 0 o1)) (fun _ M2 o2 r1 r2 r3 => ⟨rfl, same 0 (-1) o1 o2 c1 c2 c3 r1 r2 r3⟩) (fun s hs hx => ?_) ?_
    · exfalso
      rcases hb with b | b
      · rcases hx with y | y
        · omega
        · exact y.1 b.1
      · rcases hx with y | y
        · exact b.1 y.1
        · have e := b.2
          rw [y.2.1, iz_toInt (by omega) (by omega)] at e
          omega
    · have e5 : qFin len (lnQ (tpS M) len I0 0) = (5, (len : Int)) := by
        unfold qFin
        rw [if_pos ⟨rfl, Or.inl (by show I0 0 = 0; rw [I0_0 (by omega)])⟩]
      rw [e5]
      show (0 : Int) ≤ 5 ∧ (5 : Int) ≤ 5
      omega
  · refine r_sale (tp := tpS M) (N := N) (rc (ocw 0 o1)) h0.2.2 (rl (ocw 0 o1)) h1.2.2 (rt (ocw 0 o1)) (fun hb => ?_) (fun s' hs' hx' => ⟨hN0, hN, hN5, hwf, fun _ M2 o2 r1 r2 r3 => ⟨rfl, same _ _ o1 o2 c1 c2 c3 r1 r2 r3⟩, fun z => absurd z q0⟩) fb
    exfalso
    rcases hb with b | b
    · rcases hx with y | y
      · omega
      · exact y.1 b.1
    · rcases hx with y | y
      · exact b.1 y.1
      · have e := b.2
        rw [y.2.1, iz_toInt (by omega) (by omega)] at e
        omega
  · refine r_sale (tp := tpS M) (N := N) (rc o1) h0.2.2 (rl o1) h1.2.2 (rt o1) (fun hb => ?_) (fun s' hs' hx' => ⟨hN0, hN, hN5, hwf, fun z => absurd q0 z, fun _ M2 o2 r1 r2 r3 r4 rh => ?_⟩) fb
    · exfalso
      rcases hb with b | b
      · rcases hx with y | y
        · omega
        · exact y.1 b.1
      · rcases hx with y | y
        · exact b.1 y.1
        · have e := b.2
          rw [y.2.1, iz_toInt (by omega) (by omega)] at e
          omega
    · have es : s' = s := by
        rcases hx with y | y
        · rcases hx' with y' | y'
          · omega
          · exact absurd y.1 y'.1
        · rcases hx' with y' | y'
          · exact absurd y'.1 y.1
          · have e := y'.2.1
            rw [y.2.1, iz_eq (by omega) (by omega) (by omega) (by omega)] at e
            omega
      subst es
      refine ⟨rfl, inv_sale hI h hs o1 o2 ?_⟩
      have e : ∀ c t f i, ¬ oCw s' c t f i → ¬ oRsw s' c t f i → M2.1 c t f i = M.1 c t f i := fun c t f i a b => (o2.1 _ _ _ _ b).trans (o1.1 _ _ _ _ a)
      have hcnt : ∃ cnt' : Nat, (if x = -1 then (cnt : Int) + 1 else (cnt : Int)) = (cnt' : Int) ∧ cnt' ≤ 3 ∧ s' < cnt' ∧ ∀ t, t < cnt' → t ≠ s' → t < cnt := by
        rcases hx with y | y
        · exact ⟨cnt + 1, by rw [if_pos y.1]; omega, by omega, by omega, fun t h1 h2 => by omega⟩
        · exact ⟨cnt, by rw [if_neg y.1], h0.2.2, y.2.2, fun t h1 h2 => h1⟩
      obtain ⟨cnt', ec, ec3, ecs, ect⟩ := hcnt
      rw [ec] at c4 r4
      refine ⟨cnt', 0, upSS SS s' (lnQ (tpS M) len I0 N).2, ⟨⟨(o2.1 _ _ _ _ (by unfold oRsw; omega)).trans c4, r4, ec3⟩, ⟨((o2.1 _ _ _ _ (by unfold oRsw; omega)).trans c1).trans iz0, r1.trans iz0, by omega⟩, ?_, ?_, fun i hi => by omega, fun i hi => ?_, fun t ht => ?_⟩⟩
      · rw [show 1290 * 0 + 2 = 2 by omega, r2, o2.1 _ _ _ _ (by unfold oRsw; omega), c2]
      · rw [show 1290 * 0 + 3 = 3 by omega, r3, o2.1 _ _ _ _ (by unfold oRsw; omega), c3]
      · rw [e _ _ _ _ (by unfold oCw; omega) (by unfold oRsw; omega)]
        exact h.2.2.2.2.2.1 i hi
      · unfold upSS
        rw [show 3 * 0 + t = t by omega, show 1290 * 0 + 510 + 260 * t = 510 + 260 * t by omega]
        by_cases et : t = s'
        · subst et
          rw [if_pos rfl]
          exact ⟨cs.off o2 (by unfold oRsw; intro f i; omega), rh, sok⟩
        · rw [if_neg et]
          have old := h.2.2.2.2.2.2 t (ect t ht et)
          rw [show 3 * 0 + t = t by omega, show 1290 * 0 + 510 + 260 * t = 510 + 260 * t by omega] at old
          refine ⟨(old.1.off o1 (by unfold oCw; intro f i; omega)).off o2 (by unfold oRsw; intro f i; omega), fun i hi => ?_, old.2.2⟩
          rw [e _ _ _ _ (by unfold oCw; omega) (by unfold oRsw; omega)]
          exact old.2.1 i hi
end Za6
