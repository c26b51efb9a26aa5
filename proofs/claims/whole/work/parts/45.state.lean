/-! WHAT HOLDS BETWEEN CALLS. State k of the class (0 now, 1 .. 3 the images) against the reference's stretch from 1290 k on -/
def sR (M : zM) (k cnt len : Nat) (SS : Nat → SB) : Prop := (M.1 8 k 0 4 = iz (cnt : Int) ∧ M.1 10 0 1 (1290 * k) = iz (cnt : Int) ∧ cnt ≤ 3) ∧ (M.1 8 k 0 1 = iz (len : Int) ∧ M.1 10 0 1 (1290 * k + 1) = iz (len : Int) ∧ len ≤ 500) ∧ M.1 10 0 1 (1290 * k + 2) = M.1 8 k 0 2 ∧ M.1 10 0 1 (1290 * k + 3) = M.1 8 k 0 3 ∧ (∀ i, i < len → M.1 10 0 1 (1290 * k + 10 + i) = M.1 8 k 1 i &&& 255) ∧ (∀ i, i < 500 → fits .byte (.int (M.1 8 k 1 i)) = true) ∧ ∀ s, s < cnt → cS M (3 * k + s) (SS s) ∧ rH M (1290 * k + 510 + 260 * s) (SS s) ∧ SOK (SS s)
def iR (M : zM) (k : Nat) : Prop := (M.1 9 0 3 k = iz 0 ∧ M.1 10 0 2 k = iz 0) ∨ (M.1 9 0 3 k = iz 1 ∧ M.1 10 0 2 k = iz 1 ∧ ∃ cnt len SS, sR M (k + 1) cnt len SS)
def Inv (M : zM) : Prop := (∃ cnt len SS, sR M 0 cnt len SS) ∧ (∀ k, k < 3 → iR M k) ∧ (∀ t, t < 4 → lI M t) ∧ M.1 10 0 0 21 = iz (-1)
theorem sR.cW {M : zM} {cnt len : Nat} {SS : Nat → SB} (h : sR M 0 cnt len SS) : cW M cnt SS := ⟨h.1.1, h.1.2.2, fun s hs => by
  have := h.2.2.2.2.2.2 s hs
  rw [show 3 * 0 + s = s by omega] at this
  exact ⟨this.1, this.2.2⟩⟩
theorem sR.rW {M : zM} {cnt len : Nat} {SS : Nat → SB} (h : sR M 0 cnt len SS) : rW M cnt SS := ⟨h.1.2.1, h.1.2.2, fun s hs => by
  have := h.2.2.2.2.2.2 s hs
  rw [show 1290 * 0 + 510 + 260 * s = 510 + 260 * s by omega] at this
  exact this.2⟩
/-- the parts of state k, and of the reference's stretch k, alone count -/
theorem sR.eqv {M M' : zM} {k cnt len : Nat} {SS : Nat → SB} (h : sR M k cnt len SS) (h8 : ∀ f i, M'.1 8 k f i = M.1 8 k f i) (h7 : ∀ s f i, s < 3 → M'.1 7 (3 * k + s) f i = M.1 7 (3 * k + s) f i) (h10 : ∀ i, 1290 * k ≤ i → i < 1290 * k + 1290 → M'.1 10 0 1 i = M.1 10 0 1 i) : sR M' k cnt len SS := by
  obtain ⟨⟨a1, a2, a3⟩, ⟨b1, b2, b3⟩, c1, c2, c3, c4, c5⟩ := h
  refine ⟨⟨(h8 _ _).trans a1, (h10 _ (by omega) (by omega)).trans a2, a3⟩, ⟨(h8 _ _).trans b1, (h10 _ (by omega) (by omega)).trans b2, b3⟩, ?_, ?_, fun i hi => ?_, fun i hi => ?_, fun s hs => ⟨?_, fun i hi => ?_, (c5 s hs).2.2⟩⟩
  · rw [h10 _ (by omega) (by omega), h8]; exact c1
  · rw [h10 _ (by omega) (by omega), h8]; exact c2
  · rw [h10 _ (by omega) (by omega), h8]; exact c3 i hi
  · rw [h8]; exact c4 i hi
  · have hc := (c5 s hs).1
    unfold cS at hc ⊢
    have e : ∀ f i, M'.1 7 (3 * k + s) f i = M.1 7 (3 * k + s) f i := fun f i => h7 s f i (by omega)
    simp only [e]
    exact hc
  · rw [h10 _ (by omega) (by omega)]; exact (c5 s hs).2.1 i hi
theorem sR.kp {M M' : zM} {k cnt len : Nat} {SS : Nat → SB} (hk : k < 4) (h : sR M k cnt len SS) (q : Kp M M') : sR M' k cnt len SS :=
  h.eqv (fun f i => q.1 _ _ _ _ (Or.inl rfl)) (fun s f i hs => q.1 _ _ _ _ (Or.inr (Or.inr (Or.inl ⟨rfl, by omega⟩)))) (fun i _ _ => q.1 _ _ _ _ (Or.inr (Or.inr (Or.inr ⟨rfl, rfl, Or.inl rfl⟩))))
theorem Inv.kp {M M' : zM} (h : Inv M) (q : Kp M M') : Inv M' := by
  obtain ⟨⟨cnt, len, SS, h1⟩, h2, h3, h4⟩ := h
  refine ⟨⟨cnt, len, SS, h1.kp (by omega) q⟩, fun k hk => ?_, q.2 h3, (q.1 _ _ _ _ (Or.inr (Or.inr (Or.inr ⟨rfl, rfl, Or.inr (Or.inr ⟨rfl, rfl⟩)⟩)))).trans h4⟩
  have e1 : M'.1 9 0 3 k = M.1 9 0 3 k := q.1 _ _ _ _ (Or.inr (Or.inl rfl))
  have e2 : M'.1 10 0 2 k = M.1 10 0 2 k := q.1 _ _ _ _ (Or.inr (Or.inr (Or.inr ⟨rfl, rfl, Or.inr (Or.inl rfl)⟩)))
  unfold iR
  rw [e1, e2]
  rcases h2 k hk with g | ⟨g1, g2, c, l, S, g3⟩
  · exact Or.inl g
  · exact Or.inr ⟨g1, g2, c, l, S, g3.kp (by omega) q⟩
/-- only now has changed -/
theorem Inv.now {M M' : zM} (h : Inv M) (hn : ∃ cnt len SS, sR M' 0 cnt len SS) (h8 : ∀ k f i, 1 ≤ k → k < 4 → M'.1 8 k f i = M.1 8 k f i) (h7 : ∀ t f i, 3 ≤ t → t < 12 → M'.1 7 t f i = M.1 7 t f i) (h10 : ∀ i, 1290 ≤ i → M'.1 10 0 1 i = M.1 10 0 1 i) (h9 : ∀ i, M'.1 9 0 3 i = M.1 9 0 3 i) (h10b : ∀ i, M'.1 10 0 2 i = M.1 10 0 2 i) (h2 : (∀ t, t < 4 → lI M t) → ∀ t, t < 4 → lI M' t) (ht : M'.1 10 0 0 21 = M.1 10 0 0 21) : Inv M' := by
  obtain ⟨-, g2, g3, g4⟩ := h
  refine ⟨hn, fun k hk => ?_, h2 g3, ht.trans g4⟩
  unfold iR
  rw [h9, h10b]
  rcases g2 k hk with g | ⟨a1, a2, c, l, S, a3⟩
  · exact Or.inl g
  · exact Or.inr ⟨a1, a2, c, l, S, a3.eqv (fun f i => h8 _ f i (by omega) (by omega)) (fun s f i hs => h7 _ f i (by omega) (by omega)) (fun i h1 h2 => h10 i (by omega))⟩
/-- a sale's block with another number at place k -/
def upS (S : SB) (k : Nat) (v : Int) : SB := fun j => if j = k then v else S j
def upSS (SS : Nat → SB) (s : Nat) (T : SB) : Nat → SB := fun j => if j = s then T else SS j
section Z45
variable {Γ : zC} {Q : zQ} {M : zM} {cnt len : Nat} {SS : Nat → SB}
theorem c_count0 (h : Q (some (zi (M.1 8 0 0 4))) M) : zEv Γ 146 [zo 9 0 0] M Q := en_146 (bk_146_0 h)
theorem r_count0 (h : Q (some (zi (M.1 10 0 1 0))) M) : zEv Γ 251 [zo 10 0 0] M Q := en_251 (bk_251_0 ⟨by unfold vp_in; decide, h⟩)
theorem c_fault {x : Int32} (h : Q (some (zi (if x = 0 then M.1 8 0 0 2 else if x = 1 then M.1 8 0 0 3 else -1))) M) : zEv Γ 111 [zo 9 0 0, zi x] M Q := by
  refine en_111 (bk_111_0 ⟨fun q => ⟨fun q2 => ?_, fun q2 => ?_⟩, fun q => ?_⟩)
  · rw [if_neg q, if_neg q2] at h; exact h
  · rw [if_neg q, if_pos q2] at h; exact h
  · rw [if_pos q] at h; exact h
theorem r_fault {x : Int32} (h : Q (some (zi (if x = 0 then M.1 10 0 1 2 else if x = 1 then M.1 10 0 1 3 else -1))) M) : zEv Γ 176 [zo 10 0 0, zi x] M Q := by
  refine en_176 (bk_176_0 ⟨fun q => ⟨fun q2 => ?_, fun q2 => ⟨by unfold vp_in; decide, ?_⟩⟩, fun q => ⟨by unfold vp_in; decide, ?_⟩⟩)
  · rw [if_neg q, if_neg q2] at h; exact h
  · rw [if_neg q, if_pos q2] at h; exact h
  · rw [if_pos q] at h; exact h
theorem c_end {x : Int32} (hl : M.1 8 0 0 1 = iz (len : Int)) (h5 : len ≤ 500) (hf : (x.toInt < 0 ∨ (len : Int) < x.toInt) → Q (some (zi (-1))) M) (ht : ∀ m : Nat, m ≤ len → x = iz (m : Int) → Q (some (zi x)) (zw M 8 0 0 1 (iz (m : Int)))) : zEv Γ 109 [zo 9 0 0, zi x] M Q := by
  obtain ⟨a, ha1, ha2, rfl⟩ := iz_ex x
  rw [iz_toInt ha1 ha2] at hf
  refine en_109 (bk_109_0 ?_)
  rw [iz0, iz_lt (by omega) (by omega) (by omega) (by omega), hl, iz_le (by omega) (by omega) (by omega) (by omega)]
  refine ⟨fun q => hf (by omega), fun q => ⟨fun q2 => ?_, fun q2 => hf (by omega)⟩⟩
  obtain ⟨m, rfl⟩ := Int.eq_ofNat_of_zero_le (show 0 ≤ a by omega)
  exact ht m (by omega) rfl
theorem r_end {x : Int32} (hl : M.1 10 0 1 1 = iz (len : Int)) (h5 : len ≤ 500) (hf : (x.toInt < 0 ∨ (len : Int) < x.toInt) → Q (some (zi (-1))) M) (ht : ∀ m : Nat, m ≤ len → x = iz (m : Int) → Q (some (zi x)) (zw M 10 0 1 1 (iz (m : Int)))) : zEv Γ 156 [zo 10 0 0, zi x] M Q := by
  obtain ⟨a, ha1, ha2, rfl⟩ := iz_ex x
  rw [iz_toInt ha1 ha2] at hf
  refine en_156 (bk_156_0 ?_)
  rw [show (1 : Int32).toNatClampNeg = 1 from rfl, iz0, iz_lt (by omega) (by omega) (by omega) (by omega), hl, iz_le (by omega) (by omega) (by omega) (by omega)]
  refine ⟨fun q => hf (by omega), fun q => ⟨by unfold vp_in; decide, fun q2 => ⟨by unfold vp_in; decide, ?_⟩, fun q2 => hf (by omega)⟩⟩
  obtain ⟨m, rfl⟩ := Int.eq_ofNat_of_zero_le (show 0 ≤ a by omega)
  exact ht m (by omega) rfl
theorem c_upToTop {x : Int32} (hf : (x.toInt < 0 ∨ 99 < x.toInt) → Q (some (zi 0)) M) (ht : ∀ m : Nat, m ≤ 99 → x = iz (m : Int) → Q (some (zi 1)) M) : zEv Γ 152 [zi x] M Q := by
  obtain ⟨a, ha1, ha2, rfl⟩ := iz_ex x
  rw [iz_toInt ha1 ha2] at hf
  refine en_152 (bk_152_0 ?_)
  rw [iz0, iz_nat, iz_lt (by omega) (by omega) (by omega) (by omega), iz_lt (by omega) (by omega) (by omega) (by omega)]
  refine ⟨fun q => ⟨Or.inl rfl, hf (by omega)⟩, fun q => ⟨fun q2 => ⟨Or.inl rfl, hf (Or.inr q2)⟩, fun q2 => ⟨Or.inr rfl, ?_⟩⟩⟩
  obtain ⟨m, rfl⟩ := Int.eq_ofNat_of_zero_le (show 0 ≤ a by omega)
  exact ht m (by have : ¬ ((99 : Int) < (m : Int)) := q2; omega) rfl
theorem r_inN {x : Int32} {hi : Nat} (hh : hi < 2147483648) (hf : (x.toInt < 0 ∨ (hi : Int) < x.toInt) → Q (some (zi 0)) M) (ht : ∀ m : Nat, m ≤ hi → x = iz (m : Int) → Q (some (zi 1)) M) : zEv Γ 154 [zi x, zi 0, zi (iz (hi : Int))] M Q := by
  obtain ⟨a, ha1, ha2, rfl⟩ := iz_ex x
  rw [iz_toInt ha1 ha2] at hf
  rw [iz0]
  refine r_isIn (by omega) (by omega) (by omega) (fun q1 q2 => ?_) (fun q => hf q)
  obtain ⟨m, rfl⟩ := Int.eq_ofNat_of_zero_le q1
  exact ht m (by omega) rfl
/-- bid(sale, bidder, bid) -/
def gBidOk (cnt : Nat) (SS : Nat → SB) (x y w : Int32) : Prop := ∃ s i m : Nat, s < cnt ∧ x = iz (s : Int) ∧ (i : Int) < SS s 1 ∧ y = iz (i : Int) ∧ m ≤ 99 ∧ w = iz (m : Int)
theorem c_bid {x y w : Int32} (hW : cW M cnt SS) (hf : ¬ gBidOk cnt SS x y w → Q (some (zi 0)) M) (ht : ∀ s i m : Nat, s < cnt → x = iz (s : Int) → (i : Int) < SS s 1 → y = iz (i : Int) → m ≤ 99 → w = iz (m : Int) → Q (some (zi 1)) (zw M 7 s 8 i (iz (m : Int)))) : zEv Γ 114 [zo 9 0 0, zi x, zi y, zi w] M Q := by
  have e3 := hW.2.1
  refine en_114 (bk_114_0 (c_saleAt hW (fun q => Or.inl ⟨rfl, Or.inl rfl, hf ?_⟩) (fun s hs hx => Or.inr ⟨s, rfl, ?_⟩)))
  · rintro ⟨s, i, m, h1, rfl, -⟩
    rw [iz_toInt (by omega) (by omega)] at q
    omega
  · obtain ⟨hC, hS⟩ := hW.2.2 s hs
    have h7 := hS.2.1
    have inj : ∀ {s' : Nat}, s' < cnt → x = iz (s' : Int) → s' = s := fun {s'} h1 h2 => by
      rw [h2, iz_eq (by omega) (by omega) (by omega) (by omega)] at hx
      omega
    refine c_hasBidder hS hC (fun q => ⟨_, rfl, fun _ => ⟨Or.inl rfl, hf ?_⟩, fun q' => absurd rfl q'⟩) (fun i hi hy => ⟨_, rfl, fun q' => absurd q' (by decide), fun _ => ?_⟩)
    · rintro ⟨s', i, m, h1, h2, h3, rfl, -⟩
      rw [inj h1 h2] at h3
      rw [iz_toInt (by omega) (by omega)] at q
      omega
    · refine c_upToTop (fun q => ⟨_, rfl, fun q' => absurd rfl q', fun _ => ⟨Or.inl rfl, hf ?_⟩⟩) (fun m hm hw => ⟨_, rfl, fun _ => ?_, fun q' => absurd q' (by decide)⟩)
      · rintro ⟨s', i, m, -, -, -, -, h1, rfl⟩
        rw [iz_toInt (by omega) (by omega)] at q
        omega
      · have := ht s i m hs hx hi hy hm hw
        subst hy; subst hw
        rw [iz_clN (by omega)]
        exact ⟨iz_inN (by omega) (by omega), Or.inr rfl, this⟩
theorem r_bid {x y w : Int32} (hW : rW M cnt SS) (hf : ∀ M', Off rSl M M' → ¬ gBidOk cnt SS x y w → Q (some (zi 0)) M') (ht : ∀ (M' : zM) (s i m : Nat), Off rSl M M' → s < cnt → x = iz (s : Int) → (i : Int) < SS s 1 → y = iz (i : Int) → m ≤ 99 → w = iz (m : Int) → Q (some (zi 1)) (zw M' 10 0 1 (510 + 260 * s + 17 + i) (iz (m : Int)))) : zEv Γ 196 [zo 10 0 0, zi x, zi y, zi w] M Q := by
  have e3 := hW.2.1
  refine en_196 (bk_196_0 (r_isSale hW (fun q => ⟨_, rfl, fun _ => ⟨Or.inl rfl, hf M (Off.rf M) ?_⟩, fun q' => absurd rfl q'⟩) (fun s M1 hs hx ho hB => ⟨_, rfl, fun q' => absurd q' (by decide), fun _ => ?_⟩)))
  · rintro ⟨s, i, m, h1, rfl, -⟩
    rw [iz_toInt (by omega) (by omega)] at q
    omega
  · have hS := (hW.2.2 s hs).2
    have h7 := hS.2.1
    have inj : ∀ {s' : Nat}, s' < cnt → x = iz (s' : Int) → s' = s := fun {s'} h1 h2 => by
      rw [h2, iz_eq (by omega) (by omega) (by omega) (by omega)] at hx
      omega
    refine r_isBidder hS hB (fun q => ⟨_, rfl, fun _ => ⟨Or.inl rfl, hf M1 ho ?_⟩, fun q' => absurd rfl q'⟩) (fun i hi hy => ⟨_, rfl, fun q' => absurd q' (by decide), fun _ => ?_⟩)
    · rintro ⟨s', i, m, h1, h2, h3, rfl, -⟩
      rw [inj h1 h2] at h3
      rw [iz_toInt (by omega) (by omega)] at q
      omega
    · refine r_inN (hi := 99) (by omega) (fun q => ⟨_, rfl, fun q' => absurd rfl q', fun _ => ⟨Or.inl rfl, hf M1 ho ?_⟩⟩) (fun m hm hw => ⟨_, rfl, fun _ => ?_, fun q' => absurd q' (by decide)⟩)
      · rintro ⟨s', i, m, -, -, -, -, h1, rfl⟩
        rw [iz_toInt (by omega) (by omega)] at q
        omega
      · have := ht M1 s i m ho hs hx hi hy hm hw
        subst hy; subst hw
        have e : iz ((510 + 260 * s : Nat) : Int) + 17 + iz (i : Int) = iz ((510 + 260 * s + 17 + i : Nat) : Int) := by
          rw [iz_nat, iz_add, iz_add]; congr 1
        rw [hB.1, e, iz_clN (by omega)]
        exact ⟨iz_inN (by omega) (by omega), Or.inr rfl, this⟩
end Z45
