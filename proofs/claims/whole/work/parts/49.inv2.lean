theorem sR.copy {M M' : zM} {a b cnt len : Nat} {SS : Nat → SB} (h : sR M a cnt len SS) (h8 : ∀ j, 1 ≤ j → j ≤ 4 → M'.1 8 b 0 j = M.1 8 a 0 j) (h81 : ∀ i, i < 500 → M'.1 8 b 1 i = M.1 8 a 1 i) (h7 : ∀ s, s < 3 → ∀ S, cS M (3 * a + s) S → cS M' (3 * b + s) S) (h10 : ∀ i, i < 1290 → M'.1 10 0 1 (1290 * b + i) = M.1 10 0 1 (1290 * a + i)) : sR M' b cnt len SS := by
  obtain ⟨⟨a1, a2, a3⟩, ⟨b1, b2, b3⟩, c1, c2, c3, c4, c5⟩ := h
  have e0 := h10 0 (by omega)
  rw [Nat.add_zero, Nat.add_zero] at e0
  refine ⟨⟨(h8 4 (by omega) (by omega)).trans a1, e0.trans a2, a3⟩, ⟨(h8 1 (by omega) (by omega)).trans b1, (h10 1 (by omega)).trans b2, b3⟩, ?_, ?_, fun i hi => ?_, fun i hi => ?_, fun s hs => ⟨h7 s (by omega) _ (c5 s hs).1, fun k hk => ?_, (c5 s hs).2.2⟩⟩
  · rw [h10 2 (by omega), h8 2 (by omega) (by omega)]; exact c1
  · rw [h10 3 (by omega), h8 3 (by omega) (by omega)]; exact c2
  · rw [show 1290 * b + 10 + i = 1290 * b + (10 + i) by omega, h10 (10 + i) (by omega), h81 i (by omega), show 1290 * a + (10 + i) = 1290 * a + 10 + i by omega]; exact c3 i hi
  · rw [h81 i hi]; exact c4 i hi
  · rw [show 1290 * b + 510 + 260 * s + k = 1290 * b + (510 + 260 * s + k) by omega, h10 _ (by omega), show 1290 * a + (510 + 260 * s + k) = 1290 * a + 510 + 260 * s + k by omega]
    exact (c5 s hs).2.1 k hk
theorem inv_image {M M1 M2 : zM} {k : Nat} (hI : Inv M) (hk : k < 3) (ho : Off (oSt (k + 1)) M M1) (h1 : ∀ j, 1 ≤ j → j ≤ 4 → M1.1 8 (k + 1) 0 j = M.1 8 0 0 j) (h2 : ∀ i, i < 500 → M1.1 8 (k + 1) 1 i = M.1 8 0 1 i) (h3 : ∀ s, s < 3 → ∀ S, cS M s S → cS M1 (3 * (k + 1) + s) S) (ho2 : Off (oAl (1290 * (k + 1))) (zw (zw M1 9 0 3 k (iz 1)) 10 0 2 k (iz 1)) M2) (h4 : ∀ i, i < 1290 → M2.1 10 0 1 (1290 * (k + 1) + i) = (zw M1 9 0 3 k (iz 1)).1 10 0 1 i) : Inv M2 := by
  obtain ⟨⟨cnt, len, SS, g1⟩, g2, g3, g4⟩ := hI
  have e : ∀ c t f i, ¬ (c = 10 ∧ t = 0 ∧ f = 1 ∧ 1290 * (k + 1) ≤ i ∧ i < 1290 * (k + 1) + 1290) → ¬ (c = 9 ∧ t = 0 ∧ f = 3 ∧ i = k) → ¬ (c = 10 ∧ t = 0 ∧ f = 2 ∧ i = k) → M2.1 c t f i = M1.1 c t f i := fun c t f i q1 q2 q3 => by
    rw [ho2.1 c t f i q1, zw_get, if_neg q3, zw_get, if_neg q2]
  have e1 : ∀ c t f i, ¬ ((c = 8 ∧ t = k + 1) ∨ (c = 7 ∧ 3 * (k + 1) ≤ t ∧ t < 3 * (k + 1) + 3)) → M1.1 c t f i = M.1 c t f i := fun c t f i q => ho.1 c t f i q
  have e2 : ∀ c t f i, ¬ (c = 10 ∧ t = 0 ∧ f = 1 ∧ 1290 * (k + 1) ≤ i ∧ i < 1290 * (k + 1) + 1290) → ¬ (c = 9 ∧ t = 0 ∧ f = 3 ∧ i = k) → ¬ (c = 10 ∧ t = 0 ∧ f = 2 ∧ i = k) → ¬ ((c = 8 ∧ t = k + 1) ∨ (c = 7 ∧ 3 * (k + 1) ≤ t ∧ t < 3 * (k + 1) + 3)) → M2.1 c t f i = M.1 c t f i := fun c t f i q1 q2 q3 q4 => (e c t f i q1 q2 q3).trans (e1 c t f i q4)
  refine ⟨⟨cnt, len, SS, g1.eqv (fun f i => e2 _ _ _ _ (by omega) (by omega) (by omega) (by omega)) (fun s f i hs => e2 _ _ _ _ (by omega) (by omega) (by omega) (by omega)) (fun i q1 q2 => e2 _ _ _ _ (by omega) (by omega) (by omega) (by omega))⟩, fun k' hk' => ?_, lI_eq (fun t f i => e2 _ _ _ _ (by omega) (by omega) (by omega) (by omega)) g3, (e2 _ _ _ _ (by omega) (by omega) (by omega) (by omega)).trans g4⟩
  by_cases hkk : k' = k
  · subst hkk
    refine Or.inr ⟨?_, ?_, cnt, len, SS, g1.copy (fun j q1 q2 => (e _ _ _ _ (by omega) (by omega) (by omega)).trans (h1 j q1 q2)) (fun i hi => (e _ _ _ _ (by omega) (by omega) (by omega)).trans (h2 i hi)) (fun s hs S hc => ?_) (fun i hi => ?_)⟩
    · rw [ho2.1 _ _ _ _ (by rintro ⟨q, -⟩; omega), zw_get, if_neg (by omega), zw_get, if_pos ⟨rfl, rfl, rfl, rfl⟩]
    · rw [ho2.1 _ _ _ _ (by rintro ⟨-, -, q, -⟩; omega), zw_get, if_pos ⟨rfl, rfl, rfl, rfl⟩]
    · rw [show 3 * 0 + s = s by omega] at hc
      have hc1 := h3 s hs S hc
      have eq : ∀ f i, M2.1 7 (3 * (k' + 1) + s) f i = M1.1 7 (3 * (k' + 1) + s) f i := fun f i => e _ _ _ _ (by omega) (by omega) (by omega)
      unfold cS at hc1 ⊢
      simp only [eq]
      exact hc1
    · rw [h4 i hi, zw_get, if_neg (by omega), e1 _ _ _ _ (by omega), show 1290 * 0 + i = i by omega]
  · unfold iR
    rw [e2 9 0 3 k' (by omega) (by omega) (by omega) (by omega), e2 10 0 2 k' (by omega) (by omega) (by omega) (by omega)]
    rcases g2 k' hk' with g | ⟨a1, a2, c, l, S, a3⟩
    · exact Or.inl g
    · exact Or.inr ⟨a1, a2, c, l, S, a3.eqv (fun f i => e2 _ _ _ _ (by omega) (by omega) (by omega) (by omega)) (fun s f i hs => e2 _ _ _ _ (by omega) (by omega) (by omega) (by omega)) (fun i q1 q2 => e2 _ _ _ _ (by omega) (by omega) (by omega) (by omega))⟩
theorem inv_again {M M1 M2 : zM} {k : Nat} (hI : Inv M) (hk : k < 3) (hke : M.1 9 0 3 k = iz 1) (ho : Off (oSt 0) M M1) (h1 : ∀ j, 1 ≤ j → j ≤ 4 → M1.1 8 0 0 j = M.1 8 (k + 1) 0 j) (h2 : ∀ i, i < 500 → M1.1 8 0 1 i = M.1 8 (k + 1) 1 i) (h3 : ∀ s, s < 3 → ∀ S, cS M (3 * (k + 1) + s) S → cS M1 s S) (ho2 : Off (oAl 0) M1 M2) (h4 : ∀ i, i < 1290 → M2.1 10 0 1 i = M1.1 10 0 1 (1290 * (k + 1) + i)) : Inv M2 := by
  have hI0 := hI
  obtain ⟨-, g2, g3, g4⟩ := hI
  have e : ∀ c t f i, ¬ (c = 10 ∧ t = 0 ∧ f = 1 ∧ 0 ≤ i ∧ i < 0 + 1290) → M2.1 c t f i = M1.1 c t f i := fun c t f i q1 => ho2.1 c t f i q1
  have e1 : ∀ c t f i, ¬ ((c = 8 ∧ t = 0) ∨ (c = 7 ∧ 3 * 0 ≤ t ∧ t < 3 * 0 + 3)) → M1.1 c t f i = M.1 c t f i := fun c t f i q => ho.1 c t f i q
  have e2 : ∀ c t f i, ¬ (c = 10 ∧ t = 0 ∧ f = 1 ∧ 0 ≤ i ∧ i < 0 + 1290) → ¬ ((c = 8 ∧ t = 0) ∨ (c = 7 ∧ 3 * 0 ≤ t ∧ t < 3 * 0 + 3)) → M2.1 c t f i = M.1 c t f i := fun c t f i q1 q2 => (e c t f i q1).trans (e1 c t f i q2)
  refine hI0.now ?_ (fun k f i q1 q2 => e2 _ _ _ _ (by omega) (by omega)) (fun t f i q1 q2 => e2 _ _ _ _ (by omega) (by omega)) (fun i q => e2 _ _ _ _ (by omega) (by omega)) (fun i => e2 _ _ _ _ (by omega) (by omega)) (fun i => e2 _ _ _ _ (by omega) (by omega)) (lI_eq fun t f i => e2 _ _ _ _ (by omega) (by omega)) (e2 _ _ _ _ (by omega) (by omega))
  rcases g2 k hk with ⟨g, -⟩ | ⟨-, -, c, l, S, a3⟩
  · rw [hke] at g
    exact absurd g (by decide)
  · refine ⟨c, l, S, a3.copy (fun j q1 q2 => (e _ _ _ _ (by omega)).trans (h1 j q1 q2)) (fun i hi => (e _ _ _ _ (by omega)).trans (h2 i hi)) (fun s hs S' hc => ?_) (fun i hi => ?_)⟩
    · have hc1 := h3 s hs S' hc
      rw [show 3 * 0 + s = s by omega]
      have eq : ∀ f i, M2.1 7 s f i = M1.1 7 s f i := fun f i => e _ _ _ _ (by omega)
      unfold cS at hc1 ⊢
      simp only [eq]
      exact hc1
    · rw [show 1290 * 0 + i = i by omega, h4 i hi, e1 _ _ _ _ (by omega)]
/-! feed: twenty bytes more -/
/-- the j-th byte of the five words -/
def fBy (w : Nat → Int32) (j : Nat) : Int32 := (w (j / 4) >>> (iz (24 - 8 * ((j % 4 : Nat) : Int)) &&& 31))
section Z49
variable {Γ : zC} {Q : zQ} {M : zM} {len : Nat}
theorem c_addBytes {x : Int32} (hl : M.1 8 0 0 1 = iz (len : Int)) (h5 : len + 4 ≤ 500) (h : ∀ M', Off (fun c t f i => c = 8 ∧ t = 0 ∧ (f = 0 ∧ i = 1 ∨ f = 1 ∧ len ≤ i ∧ i < len + 4)) M M' → M'.1 8 0 0 1 = iz ((len + 4 : Nat) : Int) → (∀ j, j < 4 → M'.1 8 0 1 (len + j) = vp_nar .byte (x >>> (iz (24 - 8 * (j : Int)) &&& 31)).toInt8.toInt32) → Q none M') : zEv Γ 106 [zo 8 0 0, zi x] M Q := by
  have loop : ∀ (d j : Nat) (M1 : zM), j + d = 4 → Off (fun c t f i => c = 8 ∧ t = 0 ∧ (f = 0 ∧ i = 1 ∨ f = 1 ∧ len ≤ i ∧ i < len + 4)) M M1 → M1.1 8 0 0 1 = iz ((len + j : Nat) : Int) → (∀ k, k < j → M1.1 8 0 1 (len + k) = vp_nar .byte (x >>> (iz (24 - 8 * (k : Int)) &&& 31)).toInt8.toInt32) → zGo Γ 106 Q 3 [some (zo 8 0 0), some (zi x), some (zi (iz (24 - 8 * (j : Int))))] [] M1 := by
    intro d
    induction d with
    | zero =>
      intro j M1 hj ho h1 h2
      have hj4 : j = 4 := by omega
      subst hj4
      refine bk_106_3 ⟨fun _ => h M1 ho h1 h2, fun q => ?_⟩
      rw [iz0, iz_lt (by omega) (by omega) (by omega) (by omega)] at q
      omega
    | succ d ih =>
      intro j M1 hj ho h1 h2
      refine bk_106_3 ⟨fun q => ?_, fun _ => ⟨fun q => ?_, fun _ => ?_⟩⟩
      · rw [iz0, iz_lt (by omega) (by omega) (by omega) (by omega)] at q
        omega
      · rw [h1, iz_nat, iz_le (by omega) (by omega) (by omega) (by omega)] at q
        exact absurd (show (500 : Int) ≤ ((len + j : Nat) : Int) from q) (by omega)
      · rw [h1, iz_clN (by omega)]
        refine ⟨iz_inN (by omega) (by omega), ?_⟩
        have e : iz (24 - 8 * (j : Int)) + (-8) = iz (24 - 8 * ((j + 1 : Nat) : Int)) := by
          rw [show (-8 : Int32) = iz (-8) from rfl, iz_add]
          congr 1
          omega
        rw [e, zw_get, if_neg (by omega), h1, iz_s]
        refine ih (j + 1) _ (by omega) ((ho.w _ ⟨rfl, rfl, Or.inr ⟨rfl, by omega, by omega⟩⟩).w _ ⟨rfl, rfl, Or.inl ⟨rfl, rfl⟩⟩) ?_ (fun k hk => ?_)
        · rw [zw_get, if_pos ⟨rfl, rfl, rfl, rfl⟩]
          congr 1
        · rw [zw_get, if_neg (by omega), zw_get]
          by_cases c : k = j
          · rw [if_pos (by omega), c]
          · rw [if_neg (by omega)]
            exact h2 k (by omega)
  refine en_106 (bk_106_0 ?_)
  exact loop 4 0 M (by omega) (Off.rf M) (by rw [hl]; congr 1) (fun k hk => by omega)
end Z49
