def oSale (t0 c t _f _i : Nat) : Prop := c = 7 ∧ t = t0
def oSt (t0 c t _f _i : Nat) : Prop := (c = 8 ∧ t = t0) ∨ (c = 7 ∧ 3 * t0 ≤ t ∧ t < 3 * t0 + 3)
section Z48
variable {Γ : zC} {Q : zQ} {M : zM}
set_option maxHeartbeats 4000000 in
theorem c_copySale {t0 t1 : Nat} (ht : t1 ≠ t0) (h : ∀ M', Off (oSale t0) M M' → (∀ S, cS M t1 S → cS M' t0 S) → Q none M') : zEv Γ 101 [zo 7 t0 0, zo 7 t1 0] M Q := by
  have n0 : (0 : Int32).toNatClampNeg = 0 := rfl
  have n6 : (6 : Int32).toNatClampNeg = 6 := rfl
  have n7 : (7 : Int32).toNatClampNeg = 7 := rfl
  have n21 : (21 : Int32).toNatClampNeg = 21 := rfl
  have n42 : (42 : Int32).toNatClampNeg = 42 := rfl
  have n49 : (49 : Int32).toNatClampNeg = 49 := rfl
  refine en_101 (bk_101_0 ?_)
  simp only [n0, n6, n7, n21, n42, n49]
  refine ⟨by decide, by decide, by decide, by decide, by decide, by decide, by decide, by decide, by decide, by decide, by decide, by decide, by decide, by decide, by decide, by decide, by decide, by decide, by decide, by decide, by decide, by decide, by decide, by decide, by decide, by decide, by decide, by decide, by decide, by decide, by decide, by decide, by decide, by decide, by decide, by decide, by decide, by decide, by decide, by decide, by decide, by decide, by decide, by decide, by decide, by decide, by decide, by decide, by decide, by decide, by decide, by decide, by decide, by decide, by decide, by decide, by decide, by decide, by decide, by decide, h _ ?_ ?_⟩
  · have p : ∀ f i, oSale t0 7 t0 f i := fun _ _ => ⟨rfl, rfl⟩
    repeat (first | exact Off.rf M | refine Off.cp ?_ (p _) | refine Off.w ?_ _ (p _ _))
  · intro S hc
    obtain ⟨h1, h2, h3, h4, h5, h6, h7, h8, h9, h10, h11, h12, h13⟩ := hc
    refine ⟨fun k hk => ?_, fun k hk => ?_, fun k hk => ?_, fun k hk => ?_, fun k hk => ?_, fun k hk => ?_, fun k hk => ?_, fun k hk => ?_, fun k hk => (fun q => ?_), fun k hk => (fun q => ?_), fun k hk => ?_, fun k hk => ?_, fun k hk => ?_⟩
    · have := h1 k hk
      rcases (show k = 0 ∨ k = 1 ∨ k = 2 ∨ k = 3 by omega) with rfl | rfl | rfl | rfl <;> (simp [zcp_get, zw_get, ht]; exact this)
    · have := h2 k hk
      simp [zcp_get, zw_get, ht, va_cpy, hk]
      exact this
    · have := h3 k hk
      simp [zcp_get, zw_get, ht, va_cpy, hk]
      exact this
    · have := h4 k hk
      simp [zcp_get, zw_get, ht, va_cpy, hk]
      exact this
    · have := h5 k hk
      simp [zcp_get, zw_get, ht, va_cpy, hk]
      exact this
    · have := h6 k hk
      simp [zcp_get, zw_get, ht, va_cpy, hk]
      exact this
    · have := h7 k hk
      simp [zcp_get, zw_get, ht, va_cpy, hk]
      exact this
    · have := h8 k hk
      simp [zcp_get, zw_get, ht, va_cpy, hk]
      exact this
    · have := h9 k hk q
      simp [zcp_get, zw_get, ht, va_cpy, hk]
      exact this
    · have := h10 k hk q
      simp [zcp_get, zw_get, ht, va_cpy, hk]
      exact this
    · have := h11 k hk
      simp [zcp_get, zw_get, ht, va_cpy, hk]
      exact this
    · have := h12 k hk
      simp [zcp_get, zw_get, ht, va_cpy, hk]
      exact this
    · have := h13 k hk
      simp [zcp_get, zw_get, ht, va_cpy, hk]
      exact this
theorem c_copyState {t0 t1 : Nat} (ht : t1 ≠ t0) (hfit : ∀ i, i < 500 → fits .byte (.int (M.1 8 t1 1 i)) = true) (h : ∀ M', Off (oSt t0) M M' → (∀ j, 1 ≤ j → j ≤ 4 → M'.1 8 t0 0 j = M.1 8 t1 0 j) → (∀ i, i < 500 → M'.1 8 t0 1 i = M.1 8 t1 1 i) → (∀ s, s < 3 → ∀ S, cS M (3 * t1 + s) S → cS M' (3 * t0 + s) S) → Q none M') : zEv Γ 107 [zo 8 t0 0, zo 8 t1 0] M Q := by
  have n0 : (0 : Int32).toNatClampNeg = 0 := rfl
  have n500 : (500 : Int32).toNatClampNeg = 500 := rfl
  have loop : ∀ (d j : Nat) (M1 : zM), j + d = 3 → Off (oSt t0) M M1 → (∀ j, 1 ≤ j → j ≤ 4 → M1.1 8 t0 0 j = M.1 8 t1 0 j) → (∀ i, i < 500 → M1.1 8 t0 1 i = M.1 8 t1 1 i) → (∀ s, s < j → ∀ S, cS M (3 * t1 + s) S → cS M1 (3 * t0 + s) S) → zGo Γ 107 Q 50 [some (zo 8 t0 0), some (zo 8 t1 0), some (zi (iz (j : Int)))] [] M1 := by
    intro d
    induction d with
    | zero =>
      intro j M1 hj ho h1 h2 h3
      refine bk_107_50 ⟨fun _ => h M1 ho h1 h2 (fun s hs => h3 s (by omega)), fun q => ?_⟩
      rw [iz_nat, iz_le (by omega) (by omega) (by omega) (by omega)] at q
      exact absurd (show (3 : Int) ≤ (j : Int) by omega) q
    | succ d ih =>
      intro j M1 hj ho h1 h2 h3
      refine bk_107_50 ⟨fun q => ?_, fun _ => ?_⟩
      · rw [iz_nat, iz_le (by omega) (by omega) (by omega) (by omega)] at q
        exact absurd (show (3 : Int) ≤ (j : Int) from q) (by omega)
      · have i3 := iz_inN (i := j) (n := 3) (by omega) (by omega)
        rw [iz_clN (by omega)]
        refine ⟨i3, i3, c_copySale (by omega) (fun M2 o2 hc2 => ⟨rfl, ?_⟩)⟩
        rw [iz_s]
        have ne : ∀ c t f i, ¬ (c = 7 ∧ t = 3 * t0 + j) → M2.1 c t f i = M1.1 c t f i := fun c t f i q => o2.1 c t f i q
        refine ih (j + 1) M2 (by omega) (ho.tr (o2.wk fun c t f i q => Or.inr ⟨q.1, by have := q.2; omega, by have := q.2; omega⟩)) (fun k a b => by rw [ne _ _ _ _ (by omega)]; exact h1 k a b) (fun i hi => by rw [ne _ _ _ _ (by omega)]; exact h2 i hi) (fun s hs S hc => ?_)
        by_cases e : s = j
        · subst e
          refine hc2 S (hc.off ho ?_)
          rintro f i (⟨q, -⟩ | ⟨-, q1, q2⟩) <;> omega
        · exact (h3 s (by omega) S hc).off o2 (by rintro f i ⟨-, q⟩; omega)
  refine en_107 (bk_107_0 ?_)
  simp only [n0, n500]
  refine ⟨by decide, by decide, by decide, by decide, by decide, fun i hi => by rw [Nat.zero_add]; exact hfit i hi, ?_⟩
  have p : ∀ f i, oSt t0 8 t0 f i := fun _ _ => Or.inl ⟨rfl, rfl⟩
  refine loop 3 0 _ (by omega) ((((((Off.rf M).cp (p _)).w _ (p _ _)).w _ (p _ _)).w _ (p _ _)).w _ (p _ _)) (fun k a b => ?_) (fun i hi => ?_) (fun s hs => by omega)
  · rcases (show k = 1 ∨ k = 2 ∨ k = 3 ∨ k = 4 by omega) with rfl | rfl | rfl | rfl <;> simp [zcp_get, zw_get, ht]
  · simp [zcp_get, zw_get, va_cpy, hi]
theorem c_image {x : Int32} (hfit : ∀ i, i < 500 → fits .byte (.int (M.1 8 0 1 i)) = true) (hf : (x.toInt < 0 ∨ 2 < x.toInt) → Q (some (zi 0)) M) (ht : ∀ (k : Nat) (M' : zM), k < 3 → x = iz (k : Int) → Off (oSt (k + 1)) M M' → (∀ j, 1 ≤ j → j ≤ 4 → M'.1 8 (k + 1) 0 j = M.1 8 0 0 j) → (∀ i, i < 500 → M'.1 8 (k + 1) 1 i = M.1 8 0 1 i) → (∀ s, s < 3 → ∀ S, cS M s S → cS M' (3 * (k + 1) + s) S) → Q (some (zi 1)) (zw M' 9 0 3 k (iz 1))) : zEv Γ 147 [zo 9 0 0, zi x] M Q := by
  obtain ⟨a, ha1, ha2, rfl⟩ := iz_ex x
  rw [iz_toInt ha1 ha2] at hf
  refine en_147 (bk_147_0 ?_)
  rw [iz0, iz_nat, iz_lt (by omega) (by omega) (by omega) (by omega), iz_lt (by omega) (by omega) (by omega) (by omega)]
  refine ⟨fun q => ⟨Or.inl rfl, hf (by omega)⟩, fun q => ⟨fun q2 => ?_, fun q2 => ⟨Or.inl rfl, hf (Or.inr (by have : ¬ (a < (3 : Int)) := q2; omega))⟩⟩⟩
  obtain ⟨k, rfl⟩ := Int.eq_ofNat_of_zero_le (show 0 ≤ a by omega)
  have hk : k < 3 := by have : (k : Int) < (3 : Int) := q2; omega
  have i3 := iz_inN (i := k) (n := 3) hk (by omega)
  rw [iz_clN (by omega), show 1 + k = k + 1 by omega]
  refine ⟨i3, c_copyState (by omega) hfit (fun M' ho h1 h2 h3 => ⟨rfl, i3, Or.inr rfl, ht k M' hk rfl ho h1 h2 (fun s hs S hc => h3 s hs S (by rw [show 3 * 0 + s = s by omega]; exact hc))⟩)⟩
theorem c_again {x : Int32} (hk1 : ∀ k, k < 3 → (M.1 9 0 3 k = iz 0) ∨ (M.1 9 0 3 k = iz 1 ∧ ∀ i, i < 500 → fits .byte (.int (M.1 8 (k + 1) 1 i)) = true)) (hf : (x.toInt < 0 ∨ 2 < x.toInt) → Q (some (zi 0)) M) (hf2 : ∀ k : Nat, k < 3 → x = iz (k : Int) → M.1 9 0 3 k = iz 0 → Q (some (zi 0)) M) (ht : ∀ (k : Nat) (M' : zM), k < 3 → x = iz (k : Int) → M.1 9 0 3 k = iz 1 → Off (oSt 0) M M' → (∀ j, 1 ≤ j → j ≤ 4 → M'.1 8 0 0 j = M.1 8 (k + 1) 0 j) → (∀ i, i < 500 → M'.1 8 0 1 i = M.1 8 (k + 1) 1 i) → (∀ s, s < 3 → ∀ S, cS M (3 * (k + 1) + s) S → cS M' s S) → Q (some (zi 1)) M') : zEv Γ 148 [zo 9 0 0, zi x] M Q := by
  obtain ⟨a, ha1, ha2, rfl⟩ := iz_ex x
  rw [iz_toInt ha1 ha2] at hf
  refine en_148 (bk_148_0 ?_)
  rw [iz0, iz_nat, iz_lt (by omega) (by omega) (by omega) (by omega), iz_le (by omega) (by omega) (by omega) (by omega)]
  refine ⟨fun q => ⟨Or.inl rfl, hf (by omega)⟩, fun q => ⟨fun q2 => ⟨Or.inl rfl, hf (Or.inr (by have : (3 : Int) ≤ a := q2; omega))⟩, fun q2 => ?_⟩⟩
  obtain ⟨k, rfl⟩ := Int.eq_ofNat_of_zero_le (show 0 ≤ a by omega)
  have hk : k < 3 := by have : ¬ ((3 : Int) ≤ (k : Int)) := q2; omega
  have i3 := iz_inN (i := k) (n := 3) hk (by omega)
  rw [iz_clN (by omega)]
  rcases hk1 k hk with e | ⟨e, hfit⟩
  · rw [e]
    exact ⟨i3, fun q => absurd rfl q, fun _ => ⟨Or.inl rfl, hf2 k hk rfl e⟩⟩
  · rw [e]
    refine ⟨i3, fun _ => ⟨i3, ?_⟩, fun q => absurd q (by decide)⟩
    rw [show 1 + k = k + 1 by omega]
    exact c_copyState (by omega) hfit (fun M' ho h1 h2 h3 => ⟨rfl, Or.inr rfl, ht k M' hk rfl e ho h1 h2 (fun s hs S hc => by have := h3 s hs S hc; rw [show 3 * 0 + s = s by omega] at this; exact this)⟩)
/-- a stretch of 1290 of the reference's array is copied -/
def oAl (a c t f i : Nat) : Prop := c = 10 ∧ t = 0 ∧ f = 1 ∧ a ≤ i ∧ i < a + 1290
theorem r_image {x : Int32} (hf : (x.toInt < 0 ∨ 2 < x.toInt) → Q (some (zi 0)) M) (ht : ∀ (k : Nat) (M' : zM), k < 3 → x = iz (k : Int) → Off (oAl (1290 * (k + 1))) (zw M 10 0 2 k (iz 1)) M' → (∀ i, i < 1290 → M'.1 10 0 1 (1290 * (k + 1) + i) = M.1 10 0 1 i) → Q (some (zi 1)) M') : zEv Γ 252 [zo 10 0 0, zi x] M Q := by
  refine en_252 (bk_252_0 (r_inN (hi := 2) (by omega) (fun q => ⟨_, rfl, fun q' => absurd rfl q', fun _ => ⟨Or.inl rfl, hf q⟩⟩) (fun k hk hx => ⟨_, rfl, fun _ => ?_, fun q' => absurd q' (by decide)⟩)))
  subst hx
  have hk : k < 3 := by omega
  rw [iz_clN (by omega), show vp_nar .boolean 1 = iz 1 from by decide]
  refine ⟨iz_inN hk (by omega), ?_⟩
  have loop : ∀ (d j : Nat) (M1 : zM), j + d = 1290 → Off (oAl (1290 * (k + 1))) (zw M 10 0 2 k (iz 1)) M1 → (∀ i, i < j → M1.1 10 0 1 (1290 * (k + 1) + i) = M.1 10 0 1 i) → zGo Γ 252 Q 20 [some (zo 10 0 0), some (zi (iz (k : Int))), some (zi (iz (j : Int)))] [] M1 := by
    intro d
    induction d with
    | zero =>
      intro j M1 hj ho h1
      refine bk_252_20 ⟨fun _ => ⟨Or.inr rfl, ht k M1 hk rfl ho (fun i hi => h1 i (by omega))⟩, fun q => ?_⟩
      rw [iz_nat, iz_le (by omega) (by omega) (by omega) (by omega)] at q
      exact absurd (show (1290 : Int) ≤ (j : Int) by omega) q
    | succ d ih =>
      intro j M1 hj ho h1
      have e : (1290 : Int32) * (iz (k : Int) + 1) + iz (j : Int) = iz ((1290 * (k + 1) + j : Nat) : Int) := by
        rw [iz_s, iz_nat, iz_mul, iz_add]; congr 1
      refine bk_252_20 ⟨fun q => ?_, fun _ => ?_⟩
      · rw [iz_nat, iz_le (by omega) (by omega) (by omega) (by omega)] at q
        exact absurd (show (1290 : Int) ≤ (j : Int) from q) (by omega)
      · rw [e, iz_clN (by omega), iz_clN (by omega), iz_s]
        have ej : M1.1 10 0 1 j = M.1 10 0 1 j := by
          rw [ho.1 _ _ _ _ (by rintro ⟨-, -, -, q, -⟩; omega), zw_get, if_neg (by omega)]
        refine ⟨iz_inN (by omega) (by omega), iz_inN (by omega) (by omega), ih (j + 1) _ (by omega) (ho.w _ ⟨rfl, rfl, rfl, by omega, by omega⟩) (fun i hi => ?_)⟩
        rw [zw_get]
        by_cases c : i = j
        · rw [if_pos (by omega), ej, c]
        · rw [if_neg (by omega)]
          exact h1 i (by omega)
  exact loop 1290 0 _ (by omega) (Off.rf _) (fun i hi => by omega)
theorem r_again {x : Int32} (hk1 : ∀ k, k < 3 → M.1 10 0 2 k = iz 0 ∨ M.1 10 0 2 k = iz 1) (hf : (x.toInt < 0 ∨ 2 < x.toInt) → Q (some (zi 0)) M) (hf2 : ∀ k : Nat, k < 3 → x = iz (k : Int) → M.1 10 0 2 k = iz 0 → Q (some (zi 0)) M) (ht : ∀ (k : Nat) (M' : zM), k < 3 → x = iz (k : Int) → M.1 10 0 2 k = iz 1 → Off (oAl 0) M M' → (∀ i, i < 1290 → M'.1 10 0 1 i = M.1 10 0 1 (1290 * (k + 1) + i)) → Q (some (zi 1)) M') : zEv Γ 253 [zo 10 0 0, zi x] M Q := by
  refine en_253 (bk_253_0 (r_inN (hi := 2) (by omega) (fun q => ⟨_, rfl, fun _ => ⟨Or.inl rfl, hf q⟩, fun q' => absurd rfl q'⟩) (fun k hk hx => ⟨_, rfl, fun q' => absurd q' (by decide), fun _ => ?_⟩)))
  subst hx
  have hk : k < 3 := by omega
  rw [iz_clN (by omega)]
  refine ⟨iz_inN hk (by omega), ?_⟩
  rcases hk1 k hk with e0 | e0
  · rw [e0]
    exact ⟨fun q => absurd rfl q, fun _ => ⟨Or.inl rfl, hf2 k hk rfl e0⟩⟩
  rw [e0]
  refine ⟨fun _ => ?_, fun q => absurd q (by decide)⟩
  have loop : ∀ (d j : Nat) (M1 : zM), j + d = 1290 → Off (oAl 0) M M1 → (∀ i, i < j → M1.1 10 0 1 i = M.1 10 0 1 (1290 * (k + 1) + i)) → zGo Γ 253 Q 22 [some (zo 10 0 0), some (zi (iz (k : Int))), some (zi (iz (j : Int)))] [] M1 := by
    intro d
    induction d with
    | zero =>
      intro j M1 hj ho h1
      refine bk_253_22 ⟨fun _ => ⟨Or.inr rfl, ht k M1 hk rfl e0 ho (fun i hi => h1 i (by omega))⟩, fun q => ?_⟩
      rw [iz_nat, iz_le (by omega) (by omega) (by omega) (by omega)] at q
      exact absurd (show (1290 : Int) ≤ (j : Int) by omega) q
    | succ d ih =>
      intro j M1 hj ho h1
      have e : (1290 : Int32) * (iz (k : Int) + 1) + iz (j : Int) = iz ((1290 * (k + 1) + j : Nat) : Int) := by
        rw [iz_s, iz_nat, iz_mul, iz_add]; congr 1
      refine bk_253_22 ⟨fun q => ?_, fun _ => ?_⟩
      · rw [iz_nat, iz_le (by omega) (by omega) (by omega) (by omega)] at q
        exact absurd (show (1290 : Int) ≤ (j : Int) from q) (by omega)
      · rw [e, iz_clN (by omega), iz_clN (by omega), iz_s]
        have ej : M1.1 10 0 1 (1290 * (k + 1) + j) = M.1 10 0 1 (1290 * (k + 1) + j) := ho.1 _ _ _ _ (by rintro ⟨-, -, -, -, q⟩; omega)
        refine ⟨iz_inN (by omega) (by omega), iz_inN (by omega) (by omega), ih (j + 1) _ (by omega) (ho.w _ ⟨rfl, rfl, rfl, by omega, by omega⟩) (fun i hi => ?_)⟩
        rw [zw_get]
        by_cases c : i = j
        · rw [if_pos (by omega), ej, c]
        · rw [if_neg (by omega)]
          exact h1 i (by omega)
  exact loop 1290 0 _ (by omega) (Off.rf _) (fun i hi => by omega)
end Z48
