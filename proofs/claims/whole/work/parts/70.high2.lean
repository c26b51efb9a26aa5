/-! the class's high -/
theorem lin_seg {bd mk : Nat → Int} {a b : Int} {n : Nat} (hab : a ≤ b) (h : ∀ x ∈ lin bd mk (fun _ => false) a n, b ≤ bd x) : lin bd mk (fun _ => false) b n = lin bd mk (fun _ => false) a n := by
  refine srt_eq _ _ (lin_srt n) (lin_srt n) (fun x => ?_)
  constructor
  · intro hx
    rw [lin_mem] at hx ⊢
    refine ⟨hx.1, fun z => hx.2 ?_⟩
    rcases z with z | z | z
    · exact Or.inl z
    · exact Or.inr (Or.inl (by omega))
    · exact Or.inr (Or.inr z)
  · intro hx
    have hb := h x hx
    rw [lin_mem] at hx ⊢
    refine ⟨hx.1, fun z => hx.2 ?_⟩
    rcases z with z | z | z
    · exact Or.inl z
    · omega
    · exact Or.inr (Or.inr z)
theorem lin_fil {bd mk : Nat → Int} {a b : Int} {n : Nat} (hab : a ≤ b) : (lin bd mk (fun _ => false) a n).filter (fun x => decide (b ≤ bd x)) = lin bd mk (fun _ => false) b n := by
  refine srt_eq (sc := fun k => bd k * mk k) _ _ (List.Pairwise.filter _ (lin_srt n)) (lin_srt n) (fun x => ?_)
  rw [List.mem_filter, lin_mem, lin_mem, decide_eq_true_iff]
  constructor
  · rintro ⟨⟨h1, h2⟩, h3⟩
    refine ⟨h1, fun z => h2 ?_⟩
    rcases z with z | z | z
    · exact Or.inl z
    · omega
    · exact Or.inr (Or.inr z)
  · rintro ⟨h1, h2⟩
    refine ⟨⟨h1, fun z => h2 ?_⟩, ?_⟩
    · rcases z with z | z | z
      · exact Or.inl z
      · exact Or.inr (Or.inl (by omega))
      · exact Or.inr (Or.inr z)
    · apply Classical.byContradiction
      intro z
      exact h2 (Or.inr (Or.inl (by omega)))
theorem tkB_seg {S : SB} (hS : SOK S) {bd : Nat → Int} {a b : Nat} (hab : a ≤ b) (h : ∀ x ∈ lin bd (mkS S) (fun _ => false) (a : Int) (S 1).toNat, (b : Int) ≤ bd x) : tkB S bd (b : Int) = sumTo (mxP S bd (mkS S) (lin bd (mkS S) (fun _ => false) (a : Int) (S 1).toNat) b) (min (lin bd (mkS S) (fun _ => false) (a : Int) (S 1).toNat).length (S 0).toNat) := by
  have h6 := hS.1
  unfold tkB
  rw [lin_seg (show (a : Int) ≤ (b : Int) by omega) h]
  generalize lin bd (mkS S) (fun _ => false) (a : Int) (S 1).toNat = l at *
  have e1 := sumTo_z (f := payB S bd (mkS S) (b : Int) l (S 0).toNat) (a := min l.length (S 0).toNat) ((S 0).toNat - min l.length (S 0).toNat) (fun j j1 j2 => by unfold payB; rw [if_neg (by omega)])
  rw [show min l.length (S 0).toNat + ((S 0).toNat - min l.length (S 0).toNat) = (S 0).toNat by omega] at e1
  rw [e1]
  refine sumTo_congr _ (fun j hj => ?_)
  unfold payB mxP
  rw [if_pos hj, payS_ask hS (by omega) (h _ (getD_mem (by omega)))]
theorem tkB_nil {S : SB} {bd : Nat → Int} {b : Int} (h : lin bd (mkS S) (fun _ => false) b (S 1).toNat = []) : tkB S bd b = 0 := by
  unfold tkB
  rw [h, sumTo_congr (g := fun _ => 0) _ (fun k _ => by unfold payB; rw [if_neg (by simp)]), sumTo_zero]
section Z70
variable {Γ : zC} {Q : zQ} {M : zM} {ts cnt : Nat} {S : SB} {bd : Nat → Int} {fl st : Nat → Int} {SS : Nat → SB}
theorem c_addBars {w : Int} (hS : SOK S) (hC : cS M ts S) (hI : lI M 2) (hbd : ∀ i, i < (S 1).toNat → M.1 0 0 3 i = iz (bd i)) (hr : rng (S 1).toNat bd (mkS S)) (hg : fG M fl st)
    (h : ∀ (M' : zM) (fl' st' : Nat → Int), Off oFl M M' → lI M' 2 → fG M' fl' st' → (∀ b, b < 100 → vF2 fl' st' b = vF2 fl st b + w * tkB S bd (b : Int)) → Q none M') : zEv Γ 3 [zo 0 0 0, zo 7 ts 0, zl (lz w)] M Q := by
  have h7 := hS.2.1
  have h6 := hS.1
  refine en_3 (bk_3_0 ?_)
  rw [iz_m1]
  refine c_open (bar := 0) hS hC hI (fun M1 o1 L1 => ⟨rfl, ?_⟩)
  have C1 := hC.off o1 (by unfold cLn; intro f i; omega)
  refine c_putOthers_0_3 (e := -1) (bd := bd) (mk := mkS S) (n := (S 1).toNat) (by omega) hS (by omega) C1 (fun i hi => (o1.1 _ _ _ _ (by unfold cLn; omega)).trans (hbd i hi)) (fun i _ => rfl) hr (by omega) (L1 _ _) ?_
  intro M2 o2 L2
  refine ⟨rfl, ?_⟩
  rw [ex_no] at L2
  have main : ∀ (d k fr : Nat) (M3 : zM) (fl' st' : Nat → Int), k + d = 7 → Off oFl M M3 → fr ≤ 100 → cL M3 2 S (fr : Int) bd (mkS S) (lin bd (mkS S) (fun _ => false) (fr : Int) (S 1).toNat) → (lin bd (mkS S) (fun _ => false) (fr : Int) (S 1).toNat).length + k ≤ 7 → fG M3 fl' st' → (∀ b, b < 100 → vF2 fl' st' b = vF2 fl st b + (if b < fr then w * tkB S bd (b : Int) else 0)) → zGo Γ 3 Q 28 [some (zo 0 0 0), none, some (zl (lz w)), none, some (zi (iz (fr : Int))), some (zi (iz (k : Int))), none] [] M3 := by
    intro d
    induction d with
    | zero =>
      intro k fr M3 fl' st' hk o3 hfr L3 hlk g3 v3
      have hk7 : k = 7 := by omega
      have hnil : lin bd (mkS S) (fun _ => false) (fr : Int) (S 1).toNat = [] := List.eq_nil_of_length_eq_zero (by omega)
      subst hk7
      refine bk_3_28 ⟨fun _ => h M3 fl' st' o3 (cL.inv hS L3 (by omega)) g3 (fun b hb => ?_), fun q => absurd (by decide) q⟩
      rw [v3 b hb]
      by_cases z : b < fr
      · rw [if_pos z]
      · rw [if_neg z, tkB_nil (by rw [lin_seg (show (fr : Int) ≤ (b : Int) by omega) (by rw [hnil]; simp), hnil]), Int.mul_zero]
    | succ d ih =>
      intro k fr M3 fl' st' hk o3 hfr L3 hlk g3 v3
      refine bk_3_28 ⟨fun q => ?_, fun _ => ⟨fun q => ?_, fun q => ?_⟩⟩
      · rw [show (7 : Int32) = iz 7 from rfl, iz_le (by omega) (by omega) (by omega) (by omega)] at q
        omega
      · rw [L3.2.2.2.1, iz0, iz_le (by omega) (by omega) (by omega) (by omega)] at q
        have hnil : lin bd (mkS S) (fun _ => false) (fr : Int) (S 1).toNat = [] := List.eq_nil_of_length_eq_zero (by omega)
        refine h M3 fl' st' o3 (cL.inv hS L3 (by omega)) g3 (fun b hb => ?_)
        rw [v3 b hb]
        by_cases z : b < fr
        · rw [if_pos z]
        · rw [if_neg z, tkB_nil (by rw [lin_seg (show (fr : Int) ≤ (b : Int) by omega) (by rw [hnil]; simp), hnil]), Int.mul_zero]
      · rw [L3.2.2.2.1, iz0, iz_le (by omega) (by omega) (by omega) (by omega)] at q
        have hfil : ∀ to : Int, (fr : Int) ≤ to → (lin bd (mkS S) (fun _ => false) (fr : Int) (S 1).toNat).filter (fun x => decide (to ≤ bd x)) = lin bd (mkS S) (fun _ => false) to (S 1).toNat := fun to hto => lin_fil hto
        have hseg : ∀ b : Nat, fr ≤ b → (∀ x ∈ lin bd (mkS S) (fun _ => false) (fr : Int) (S 1).toNat, (b : Int) ≤ bd x) → tkB S bd (b : Int) = sumTo (mxP S bd (mkS S) (lin bd (mkS S) (fun _ => false) (fr : Int) (S 1).toNat) b) (min (lin bd (mkS S) (fun _ => false) (fr : Int) (S 1).toNat).length (S 0).toNat) := fun b hb hx => tkB_seg hS hb hx
        have hbar : ∀ x ∈ lin bd (mkS S) (fun _ => false) (fr : Int) (S 1).toNat, x < (S 1).toNat ∧ (fr : Int) ≤ bd x := fun x hx => lin_bar hx
        generalize lin bd (mkS S) (fun _ => false) (fr : Int) (S 1).toNat = l at *
        have hb99 : ∀ x ∈ l, 0 ≤ bd x ∧ bd x ≤ 99 := fun x hx => (hr x (hbar x hx).1).1
        have hls := lsB_b (bd := bd) (l := l) (fun k hk => hb99 _ (getD_mem hk)) l.length (by omega)
        obtain ⟨k0, hk0, ek0⟩ := lsB_at (bd := bd) (l := l) l.length (by omega) (fun k hk => (hb99 _ (getD_mem hk)).2)
        have hlle : ∀ x ∈ l, lsB bd l l.length ≤ bd x := fun x hx => by
          obtain ⟨m, hm, rfl⟩ := mem_ex hx
          exact lsB_le _ m hm
        have hfrl : (fr : Int) ≤ lsB bd l l.length := by
          rw [ek0]
          exact (hbar _ (getD_mem hk0)).2
        refine c_leastBid L3 (by omega) hb99 ⟨_, rfl, ?_⟩
        have eto : iz (lsB bd l l.length) + 1 = iz (((lsB bd l l.length + 1).toNat : Nat) : Int) := by
          rw [iz1, iz_add]
          exact congrArg iz (by omega)
        rw [eto]
        have hto : ((lsB bd l l.length + 1).toNat : Int) = lsB bd l l.length + 1 := by omega
        generalize (lsB bd l l.length + 1).toNat = to at *
        refine c_addPays (nb := (S 0).toNat) hS (by omega) L3 (by omega) hr (fun x hx => (hbar x hx).1) (by omega) g3 (fun M4 fl4 st4 o4 g4 v4 => ⟨rfl, ?_⟩)
        have L4 : cL M4 2 S (fr : Int) bd (mkS S) l := by
          have oo : ∀ f i, M4.1 2 2 f i = M3.1 2 2 f i := fun f i => o4.1 _ _ _ _ (by unfold oFs; omega)
          obtain ⟨l1, l2, l3, l4, l5, l6, l7⟩ := L3
          exact ⟨(oo _ _).trans l1, (oo _ _).trans l2, (oo _ _).trans l3, (oo _ _).trans l4, fun j hj => (oo _ _).trans (l5 j hj), fun k hk => ⟨(oo _ _).trans (l6 k hk).1, (oo _ _).trans (l6 k hk).2.1, (oo _ _).trans (l6 k hk).2.2⟩, fun k hk => (oo _ _).trans (l7 k hk)⟩
        refine c_raiseBar (to := (to : Int)) L4 (by omega) (by omega) hb99 (fun M5 o5 L5 => ⟨rfl, ?_⟩)
        have hlt : (l.filter (fun x => decide ((to : Int) ≤ bd x))).length < l.length := List.length_filter_lt_length_iff_exists.mpr ⟨l.getD k0 0, getD_mem hk0, by rw [decide_eq_true_iff]; omega⟩
        rw [hfil _ (by omega)] at L5 hlt
        rw [iz_s]
        refine ih (k + 1) to M5 fl4 st4 (by omega) ((o3.tr (o4.wk (by unfold oFs oFl; intro c t f i; omega))).tr (o5.wk (by unfold cLn oFl; intro c t f i; omega))) (by omega) L5 (by omega) (g4.off o5 (by unfold cLn; intro i; omega) (by unfold cLn; intro i; omega)) (fun b hb => ?_)
        rw [v4 b hb, v3 b hb]
        by_cases z : b < fr
        · rw [if_pos z, if_neg (by omega), if_pos (by omega)]
          omega
        · rw [if_neg z]
          by_cases z2 : b < to
          · rw [if_pos (by omega), if_pos z2, ← hseg b (by omega) (fun x hx => by have := hlle x hx; omega)]
            omega
          · rw [if_neg (by omega), if_neg z2]
            omega
  have hlen := lin_len (bd := bd) (mk := mkS S) (ex := fun _ => false) (bar := 0) (S 1).toNat
  refine main 7 0 0 M2 fl st (by omega) ((o1.wk (by unfold cLn oFl; intro c t f i; omega)).tr (o2.wk (by unfold cLn oFl; intro c t f i; omega))) (by omega) L2 ?_ ((hg.off o1 (by unfold cLn; intro i; omega) (by unfold cLn; intro i; omega)).off o2 (by unfold cLn; intro i; omega) (by unfold cLn; intro i; omega)) (fun b hb => by rw [if_neg (by omega)]; omega)
  show (lin bd (mkS S) (fun _ => false) 0 (S 1).toNat).length + 0 ≤ 7
  omega
theorem dL_0 {B : Nat → Nat} : ∀ m, dL B m 0 = fun _ => 0
  | 0 => rfl
  | m + 1 => by
    rw [dL, Nat.zero_div, Nat.zero_mod, dL_0 m]
    funext i
    unfold upN
    split <;> rfl
theorem c_addUpBars (hS : SOK S) (hC : cS M ts S) (hI : lI M 2) (h : ∀ M', Off oCh M M' → lI M' 2 → (∀ k, k < 100 → M'.2 0 0 4 k = lz (tkA S (k : Int))) → Q none M') : zEv Γ 2 [zo 0 0 0, zo 7 ts 0] M Q := by
  have h7 := hS.2.1
  have h6 := hS.1
  have hN := nB_2187 hS (e := -1)
  have hN0 := nB_pos (B := Bs S (-1)) Bs_pos (S 1).toNat
  refine en_2 (bk_2_0 ?_)
  refine zloop (P := fun k M2 => Off oCh M M2 ∧ lI M2 2 ∧ ∀ j, j < k → M2.2 0 0 5 j = lz 0 ∧ M2.2 0 0 6 j = lz 0) (G := fun k M2 => zGo Γ 2 Q 2 [some (zo 0 0 0), some (zo 7 ts 0), some (zi (iz (k : Int))), none, none, none, none, none] [] M2) (n := 101) ?_ ?_ 101 0 M (by omega) ⟨Off.rf M, hI, fun j hj => by omega⟩
  · rintro M1 ⟨o1, i1, g1⟩
    have C1 := hC.off o1 (by unfold oCh; intro f i; omega)
    refine bk_2_2 ⟨fun _ => c_firstRow hS C1 (fun M2 o2 p2 => ⟨rfl, ?_⟩), fun q => absurd (by decide) q⟩
    have g2 : fG M2 (fun _ => 0) (fun _ => 0) := fG.off (M := M1) (fun k hk => g1 k hk) o2 (by unfold oPk; intro i; omega) (by unfold oPk; intro i; omega)
    -- the last loop
    have last : ∀ (M3 : zM) (fl st : Nat → Int), Off oCh M M3 → lI M3 2 → fG M3 fl st → (∀ b, b < 100 → vF2 fl st b = tkA S (b : Int)) → zGo Γ 2 Q 80 [some (zo 0 0 0), none, none, some (zl (0 : Int64)), none, some (zl (0 : Int64)), none, some (zi 0)] [] M3 := by
      intro M3 fl st o3 i3 g3 v3
      refine zloop (P := fun k M4 => Off oCh M M4 ∧ lI M4 2 ∧ fG M4 fl st ∧ ∀ j, j < k → M4.2 0 0 4 j = lz (tkA S (j : Int))) (G := fun k M4 => zGo Γ 2 Q 80 [some (zo 0 0 0), none, none, some (zl (lz (sumTo fl k))), none, some (zl (lz (sumTo st k))), none, some (zi (iz (k : Int)))] [] M4) (n := 100) ?_ ?_ 100 0 M3 (by omega) ⟨o3, i3, g3, fun j hj => by omega⟩
      · rintro M4 ⟨o4, i4, g4, s4⟩
        exact bk_2_80 ⟨fun _ => h M4 o4 i4 s4, fun q => absurd (by decide) q⟩
      · rintro k M4 hk ⟨o4, i4, g4, s4⟩ ih
        refine bk_2_80 ⟨fun q => ?_, fun _ => ⟨iz_inN (by omega) (by omega), iz_inN (by omega) (by omega), iz_inN (by omega) (by omega), ?_⟩⟩
        · rw [show (99 : Int32) = iz 99 from rfl, iz_lt (by omega) (by omega) (by omega) (by omega)] at q
          omega
        · rw [iz_clN (by omega), (g4 k (by omega)).1, (g4 k (by omega)).2, iz_lz (by omega) (by omega), lz_add, lz_add, lz_mul, lz_add, iz_s]
          have ev : sumTo fl k + fl k + (sumTo st k + st k) * (k : Int) = tkA S (k : Int) := v3 k hk
          rw [ev]
          have ow : Off (fun c t f i => c = 0 ∧ t = 0 ∧ f = 4) M4 (zwl M4 0 0 4 k (lz (tkA S (k : Int)))) := (Off.rf M4).wl _ ⟨rfl, rfl, rfl⟩
          refine ih _ ⟨o4.wl _ (Or.inl ⟨rfl, rfl⟩), i4.off ow (by intro f i; omega), g4.off ow (by intro i; omega) (by intro i; omega), fun j hj => ?_⟩
          rw [zwl_get]
          by_cases e : j = k
          · rw [e, if_pos ⟨rfl, rfl, rfl, rfl⟩]
          · rw [if_neg (by omega)]
            exact s4 j (by omega)
    have o2' : Off oCh M M2 := o1.tr (o2.wk (by unfold oPk oCh; intro c t f i; omega))
    have hI2 : lI M2 2 := i1.off o2 (by unfold oPk; intro f i; omega)
    have key := zloop (P := fun ρ M3 => ∃ fl st : Nat → Int, Off oCh M M3 ∧ lI M3 2 ∧ fG M3 fl st ∧ (∀ b, b < 100 → vF2 fl st b = tkS S (b : Int) ρ) ∧ (ρ < nB (Bs S (-1)) (S 1).toNat → pS M3 S (dL (Bs S (-1)) (S 1).toNat ρ))) (G := fun ρ M3 => zGo Γ 2 Q 37 [some (zo 0 0 0), some (zo 7 ts 0), some (zi (iz (if ρ < nB (Bs S (-1)) (S 1).toNat then 1 else 0))), some (zi (iz (ρ : Int))), none, none, none, none] [] M3) (n := nB (Bs S (-1)) (S 1).toNat) ?_ ?_ (nB (Bs S (-1)) (S 1).toNat) 0 M2 (by omega) ⟨fun _ => 0, fun _ => 0, o2', hI2, g2, fun b hb => by unfold vF2 tkS; rw [sumTo_zero, sumTo]; omega, fun _ => by rw [dL_0]; exact p2⟩
    · rw [if_pos hN0] at key
      exact key
    · rintro M3 ⟨fl, st, o3, i3, g3, v3, -⟩
      have := last M3 fl st o3 i3 g3 v3
      exact bk_2_37 ⟨fun _ => this, fun _ => ⟨fun _ => this, fun q => absurd (by rw [if_neg (by omega)]; rfl) q⟩⟩
    · rintro ρ M3 hρ ⟨fl, st, o3, i3, g3, v3, p3⟩ ih
      have C3 := hC.off o3 (by unfold oCh; intro f i; omega)
      have p3 := p3 hρ
      have h3 := dL_3 hS (e := -1) (m := (S 1).toNat) (ρ := ρ)
      have hr := rngC hS h3
      refine bk_2_37 ⟨fun q => ?_, fun _ => ⟨fun q => ?_, fun _ => ?_⟩⟩
      · rw [show (2187 : Int32) = iz 2187 from rfl, iz_le (by omega) (by omega) (by omega) (by omega)] at q
        omega
      · rw [if_pos hρ] at q
        exact absurd q (by decide)
      rw [iz_m1]
      refine c_partsOfRow (e := -1) hS C3 (by omega) p3 h3 ⟨_, rfl, c_addBars hS C3 i3 (fun i hi => (p3 i hi).2) hr g3 (fun M4 fl4 st4 o4 i4 g4 v4 => ⟨rfl, ?_⟩)⟩
      have C4 := C3.off o4 (by unfold oFl; intro f i; omega)
      have p4 := p3.off o4 (by unfold oFl; intro i; omega) (by unfold oFl; intro i; omega)
      refine c_nextSorts (e := -1) hS C4 (by omega) p4 hρ (fun M5 x o5 k1 k2 => ⟨_, rfl, ?_⟩)
      have nx := ih M5 ⟨fl4, st4, (o3.tr (o4.wk (by unfold oFl oCh; intro c t f i; omega))).tr (o5.wk (by unfold oPk oCh; intro c t f i; omega)), i4.off o5 (by unfold oPk; intro f i; omega), g4.off o5 (by unfold oPk; intro i; omega) (by unfold oPk; intro i; omega), fun b hb => by rw [v4 b hb, v3 b hb]; rfl, fun z => (k1 z).2⟩
      have ex : x = if ρ + 1 < nB (Bs S (-1)) (S 1).toNat then 1 else 0 := by
        by_cases z : ρ + 1 < nB (Bs S (-1)) (S 1).toNat
        · rw [if_pos z]
          exact (k1 z).1
        · rw [if_neg z]
          exact k2 (by omega)
      rw [iz_s, ex]
      exact nx
  · rintro k M2 hk ⟨o2, i2, g2⟩ ih
    refine bk_2_2 ⟨fun q => ?_, fun _ => ⟨iz_inN (by omega) (by omega), iz_inN (by omega) (by omega), ?_⟩⟩
    · rw [show (100 : Int32) = iz 100 from rfl, iz_lt (by omega) (by omega) (by omega) (by omega)] at q
      omega
    · rw [iz_clN (by omega), iz_s]
      refine ih _ ⟨(o2.wl _ (Or.inl ⟨rfl, rfl⟩)).wl _ (Or.inl ⟨rfl, rfl⟩), i2, fun j hj => ?_⟩
      rw [zwl_get, zwl_get, zwl_get, zwl_get]
      by_cases e : j = k
      · subst e
        rw [if_neg (show ¬ (0 = 0 ∧ 0 = 0 ∧ 5 = 6 ∧ j = j) by omega), if_pos ⟨rfl, rfl, rfl, rfl⟩, if_pos ⟨rfl, rfl, rfl, rfl⟩]
        exact ⟨rfl, rfl⟩
      · rw [if_neg (by omega), if_neg (by omega), if_neg (by omega), if_neg (by omega)]
        exact g2 j (by omega)
theorem c_high {x : Int32} (hW : cW M cnt SS) (hI : ∀ t, t < 4 → lI M t) (h : ∀ M', Kp M M' → Q (some (zi (iz (fS cnt SS x gHigh (-1))))) M') : zEv Γ 132 [zo 9 0 0, zi x] M Q := by
  refine en_132 (bk_132_0 (c_saleAt hW (fun q => Or.inl ⟨rfl, ?_⟩) (fun s hs hx => Or.inr ⟨s, rfl, ?_⟩)))
  · have := h M (Kp.rf M)
    rw [fS_out q] at this
    exact this
  · obtain ⟨hC, hS⟩ := hW.2.2 s hs
    rw [fS_in hs hW.2.1 hx] at h
    exact c_addUpBars hS hC (hI 2 (by omega)) (fun M1 o1 i1 s1 => ⟨rfl, c_firstGreatest s1 ⟨_, rfl, h M1 (Kp.ofC o1 i1)⟩⟩)
end Z70
