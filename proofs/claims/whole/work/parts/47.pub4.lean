def gRuleOk (cnt : Nat) (x y w : Int32) : Prop := ∃ s i m : Nat, s < cnt ∧ x = iz (s : Int) ∧ i ≤ 2 ∧ y = iz (i : Int) ∧ m ≤ 99 ∧ w = iz (m : Int)
def gPriceOk (cnt : Nat) (SS : Nat → SB) (x y w : Int32) : Prop := ∃ s j m : Nat, s < cnt ∧ x = iz (s : Int) ∧ (j : Int) < SS s 0 ∧ y = iz (j : Int) ∧ m ≤ 9999 ∧ w = iz (m : Int)
def gAbout (S : SB) (w : Int32) : Int :=
  if 10 ≤ w.toInt ∧ w.toInt ≤ 9 + S 0 then S (4 + (w.toInt - 10).toNat)
  else if 20 ≤ w.toInt ∧ w.toInt ≤ 19 + S 1 then S (10 + (w.toInt - 20).toNat)
  else if 30 ≤ w.toInt ∧ w.toInt ≤ 29 + S 1 then S (17 + (w.toInt - 30).toNat)
  else if 40 ≤ w.toInt ∧ w.toInt ≤ 39 + S 1 then S (24 + (w.toInt - 40).toNat)
  else if 50 ≤ w.toInt ∧ w.toInt ≤ 49 + S 1 then S (31 + (w.toInt - 50).toNat)
  else if 60 ≤ w.toInt ∧ w.toInt ≤ 59 + S 1 then S (80 + (w.toInt - 60).toNat)
  else if 0 ≤ w.toInt ∧ w.toInt ≤ 3 then S w.toInt.toNat else -1
section Z47
variable {Γ : zC} {Q : zQ} {M : zM} {cnt len : Nat} {SS : Nat → SB}
theorem c_rule {x y w : Int32} (hW : cW M cnt SS) (hf : ¬ gRuleOk cnt x y w → Q (some (zi 0)) M) (ht : ∀ s i m : Nat, s < cnt → x = iz (s : Int) → i ≤ 2 → y = iz (i : Int) → m ≤ 99 → w = iz (m : Int) → Q (some (zi 1)) (zw (zw M 7 s 0 2 (iz (i : Int))) 7 s 0 3 (iz (m : Int)))) : zEv Γ 115 [zo 9 0 0, zi x, zi y, zi w] M Q := by
  have e3 := hW.2.1
  obtain ⟨a, ha1, ha2, rfl⟩ := iz_ex y
  refine en_115 (bk_115_0 (c_saleAt hW (fun q => Or.inl ⟨rfl, Or.inl rfl, hf ?_⟩) (fun s hs hx => Or.inr ⟨s, rfl, ?_⟩)))
  · rintro ⟨s, i, m, h1, rfl, -⟩
    rw [iz_toInt (by omega) (by omega)] at q
    omega
  · have no : a < 0 ∨ 2 < a → ¬ gRuleOk cnt x (iz a) w := by
      rintro q ⟨s, i, m, h1, h2, h3, h4, -⟩
      rw [iz_eq (by omega) (by omega) (by omega) (by omega)] at h4
      omega
    rw [iz0, iz_lt (by omega) (by omega) (by omega) (by omega), iz_nat, iz_lt (by omega) (by omega) (by omega) (by omega)]
    refine ⟨fun q => ⟨Or.inl rfl, hf (no (Or.inl q))⟩, fun q => ⟨fun q2 => ⟨Or.inl rfl, hf (no (Or.inr q2))⟩, fun q2 => ?_⟩⟩
    refine c_upToTop (fun q => ⟨_, rfl, fun q' => absurd rfl q', fun _ => ⟨Or.inl rfl, hf ?_⟩⟩) (fun m hm hw => ⟨_, rfl, fun _ => ⟨Or.inr rfl, ?_⟩, fun q' => absurd q' (by decide)⟩)
    · rintro ⟨s', i, m, -, -, -, -, h1, rfl⟩
      rw [iz_toInt (by omega) (by omega)] at q
      omega
    · obtain ⟨i, rfl⟩ := Int.eq_ofNat_of_zero_le (show 0 ≤ a by omega)
      have := ht s i m hs hx (by have : ¬ ((2 : Int) < (i : Int)) := q2; omega) rfl hm hw
      subst hw
      exact this
theorem r_rule {x y w : Int32} (hW : rW M cnt SS) (hf : ∀ M', Off rSl M M' → ¬ gRuleOk cnt x y w → Q (some (zi 0)) M') (ht : ∀ (M' : zM) (s i m : Nat), Off rSl M M' → s < cnt → x = iz (s : Int) → i ≤ 2 → y = iz (i : Int) → m ≤ 99 → w = iz (m : Int) → Q (some (zi 1)) (zw (zw M' 10 0 1 (510 + 260 * s + 2) (iz (i : Int))) 10 0 1 (510 + 260 * s + 3) (iz (m : Int)))) : zEv Γ 197 [zo 10 0 0, zi x, zi y, zi w] M Q := by
  have e3 := hW.2.1
  refine en_197 (bk_197_0 (r_isSale hW (fun q => ⟨_, rfl, fun _ => ⟨Or.inl rfl, hf M (Off.rf M) ?_⟩, fun q' => absurd rfl q'⟩) (fun s M1 hs hx ho hB => ⟨_, rfl, fun q' => absurd q' (by decide), fun _ => ?_⟩)))
  · rintro ⟨s, i, m, h1, rfl, -⟩
    rw [iz_toInt (by omega) (by omega)] at q
    omega
  · refine r_inN (hi := 2) (by omega) (fun q => ⟨_, rfl, fun _ => ⟨Or.inl rfl, hf M1 ho ?_⟩, fun q' => absurd rfl q'⟩) (fun i hi hy => ⟨_, rfl, fun q' => absurd q' (by decide), fun _ => ?_⟩)
    · rintro ⟨s', i, m, -, -, h1, rfl, -⟩
      rw [iz_toInt (by omega) (by omega)] at q
      omega
    · refine r_inN (hi := 99) (by omega) (fun q => ⟨_, rfl, fun q' => absurd rfl q', fun _ => ⟨Or.inl rfl, hf M1 ho ?_⟩⟩) (fun m hm hw => ⟨_, rfl, fun _ => ?_, fun q' => absurd q' (by decide)⟩)
      · rintro ⟨s', i, m, -, -, -, -, h1, rfl⟩
        rw [iz_toInt (by omega) (by omega)] at q
        omega
      · have := ht M1 s i m ho hs hx hi hy hm hw
        subst hy; subst hw
        have e2 : iz ((510 + 260 * s : Nat) : Int) + 2 = iz ((510 + 260 * s + 2 : Nat) : Int) := by
          rw [iz_nat, iz_add]; congr 1
        have e4 : iz ((510 + 260 * s : Nat) : Int) + 3 = iz ((510 + 260 * s + 3 : Nat) : Int) := by
          rw [iz_nat, iz_add]; congr 1
        rw [hB.1, e2, iz_clN (by omega), zw_get, if_neg (by omega), hB.1, e4, iz_clN (by omega)]
        exact ⟨iz_inN (by omega) (by omega), iz_inN (by omega) (by omega), Or.inr rfl, this⟩
theorem c_price {x y w : Int32} (hW : cW M cnt SS) (hf : ¬ gPriceOk cnt SS x y w → Q (some (zi 0)) M) (ht : ∀ s j m : Nat, s < cnt → x = iz (s : Int) → (j : Int) < SS s 0 → y = iz (j : Int) → m ≤ 9999 → w = iz (m : Int) → Q (some (zi 1)) (zw M 7 s 6 j (iz (m : Int)))) : zEv Γ 128 [zo 9 0 0, zi x, zi y, zi w] M Q := by
  have e3 := hW.2.1
  refine en_128 (bk_128_0 (c_saleAt hW (fun q => Or.inl ⟨rfl, Or.inl rfl, hf ?_⟩) (fun s hs hx => Or.inr ⟨s, rfl, ?_⟩)))
  · rintro ⟨s, i, m, h1, rfl, -⟩
    rw [iz_toInt (by omega) (by omega)] at q
    omega
  · obtain ⟨hC, hS⟩ := hW.2.2 s hs
    have h6 := hS.1
    have inj : ∀ {s' : Nat}, s' < cnt → x = iz (s' : Int) → s' = s := fun {s'} h1 h2 => by
      rw [h2, iz_eq (by omega) (by omega) (by omega) (by omega)] at hx
      omega
    refine c_hasBoard hS hC (fun q => ⟨_, rfl, fun _ => ⟨Or.inl rfl, hf ?_⟩, fun q' => absurd rfl q'⟩) (fun i hi hy => ⟨_, rfl, fun q' => absurd q' (by decide), fun _ => ?_⟩)
    · rintro ⟨s', i, m, h1, h2, h3, rfl, -⟩
      rw [inj h1 h2] at h3
      rw [iz_toInt (by omega) (by omega)] at q
      omega
    · obtain ⟨a, ha1, ha2, rfl⟩ := iz_ex w
      have no : a < 0 ∨ 9999 < a → ¬ gPriceOk cnt SS x y (iz a) := by
        rintro q ⟨s, i, m, h1, h2, h3, h4, h5, h6⟩
        rw [iz_eq (by omega) (by omega) (by omega) (by omega)] at h6
        omega
      rw [iz0, iz_lt (by omega) (by omega) (by omega) (by omega), iz_nat, iz_le (by omega) (by omega) (by omega) (by omega)]
      refine ⟨fun q => ⟨Or.inl rfl, hf (no (Or.inl q))⟩, fun q => ⟨fun q2 => ?_, fun q2 => ⟨Or.inl rfl, hf (no (Or.inr (by have : ¬ (a ≤ (9999 : Int)) := q2; omega)))⟩⟩⟩
      obtain ⟨m, rfl⟩ := Int.eq_ofNat_of_zero_le (show 0 ≤ a by omega)
      have := ht s i m hs hx hi hy (by have : (m : Int) ≤ (9999 : Int) := q2; omega) rfl
      subst hy
      rw [iz_clN (by omega)]
      exact ⟨iz_inN (by omega) (by omega), Or.inr rfl, this⟩
theorem r_price {x y w : Int32} (hW : rW M cnt SS) (hf : ∀ M', Off rSl M M' → ¬ gPriceOk cnt SS x y w → Q (some (zi 0)) M') (ht : ∀ (M' : zM) (s j m : Nat), Off rSl M M' → s < cnt → x = iz (s : Int) → (j : Int) < SS s 0 → y = iz (j : Int) → m ≤ 9999 → w = iz (m : Int) → Q (some (zi 1)) (zw M' 10 0 1 (510 + 260 * s + (227 + j)) (iz (m : Int)))) : zEv Γ 221 [zo 10 0 0, zi x, zi y, zi w] M Q := by
  have e3 := hW.2.1
  refine en_221 (bk_221_0 (r_isSale hW (fun q => ⟨_, rfl, fun _ => ⟨Or.inl rfl, hf M (Off.rf M) ?_⟩, fun q' => absurd rfl q'⟩) (fun s M1 hs hx ho hB => ⟨_, rfl, fun q' => absurd q' (by decide), fun _ => ?_⟩)))
  · rintro ⟨s, i, m, h1, rfl, -⟩
    rw [iz_toInt (by omega) (by omega)] at q
    omega
  · have hS := (hW.2.2 s hs).2
    have h6 := hS.1
    have inj : ∀ {s' : Nat}, s' < cnt → x = iz (s' : Int) → s' = s := fun {s'} h1 h2 => by
      rw [h2, iz_eq (by omega) (by omega) (by omega) (by omega)] at hx
      omega
    refine r_isBoard hS hB (fun q => ⟨_, rfl, fun _ => ⟨Or.inl rfl, hf M1 ho ?_⟩, fun q' => absurd rfl q'⟩) (fun i hi hy => ⟨_, rfl, fun q' => absurd q' (by decide), fun _ => ?_⟩)
    · rintro ⟨s', i, m, h1, h2, h3, rfl, -⟩
      rw [inj h1 h2] at h3
      rw [iz_toInt (by omega) (by omega)] at q
      omega
    · refine r_inN (hi := 9999) (by omega) (fun q => ⟨_, rfl, fun q' => absurd rfl q', fun _ => ⟨Or.inl rfl, hf M1 ho ?_⟩⟩) (fun m hm hw => ⟨_, rfl, fun _ => ?_, fun q' => absurd q' (by decide)⟩)
      · rintro ⟨s', i, m, -, -, -, -, h1, rfl⟩
        rw [iz_toInt (by omega) (by omega)] at q
        omega
      · have := ht M1 s i m ho hs hx hi hy hm hw
        subst hy; subst hw
        have e : iz ((510 + 260 * s : Nat) : Int) + 227 + iz (i : Int) = iz ((510 + 260 * s + (227 + i) : Nat) : Int) := by
          rw [iz_nat, iz_add, iz_add]; congr 1; omega
        rw [hB.1, e, iz_clN (by omega)]
        exact ⟨iz_inN (by omega) (by omega), Or.inr rfl, this⟩
theorem c_about {x w : Int32} (hW : cW M cnt SS) (h : Q (some (zi (iz (fS cnt SS x (fun S => gAbout S w) (-1))))) M) : zEv Γ 112 [zo 9 0 0, zi x, zi w] M Q := by
  refine en_112 (bk_112_0 (c_saleAt hW (fun q => Or.inl ⟨rfl, ?_⟩) (fun s hs hx => Or.inr ⟨s, rfl, ?_⟩)))
  · rw [fS_out q] at h
    exact h
  · obtain ⟨hC, hS⟩ := hW.2.2 s hs
    have h6 := hS.1
    have h7 := hS.2.1
    rw [fS_in hs hW.2.1 hx] at h
    obtain ⟨a, ha1, ha2, rfl⟩ := iz_ex w
    unfold gAbout at h
    rw [iz_toInt ha1 ha2] at h
    rw [iz0, iz_le (by omega) (by omega) (by omega) (by omega)]
    refine ⟨fun q0 => ⟨by decide, by decide, ?_⟩, fun q0 => ?_⟩
    · have ed : iz a / 10 = iz (a / 10) := by rw [iz_nat, iz_div q0 ha2 (by decide) (by decide)]
      have em : iz a - iz (a / 10) * 10 = iz (a % 10) := by
        rw [iz_nat, iz_mul, iz_sub]
        congr 1
        show a - a / 10 * 10 = a % 10
        omega
      rw [ed, em, iz_toInt (by omega) (by omega)]
      have neg : ∀ {Q' : Prop}, (Q (some (zi (iz (-1)))) M → Q') → ¬ (10 ≤ a ∧ a ≤ 9 + SS s 0) → ¬ (20 ≤ a ∧ a ≤ 19 + SS s 1) → ¬ (30 ≤ a ∧ a ≤ 29 + SS s 1) → ¬ (40 ≤ a ∧ a ≤ 39 + SS s 1) → ¬ (50 ≤ a ∧ a ≤ 49 + SS s 1) → ¬ (60 ≤ a ∧ a ≤ 59 + SS s 1) → ¬ (0 ≤ a ∧ a ≤ 3) → Q' := by
        intro Q' k c1 c2 c3 c4 c5 c6 c7
        rw [if_neg c1, if_neg c2, if_neg c3, if_neg c4, if_neg c5, if_neg c6, if_neg c7] at h
        exact k h
      have mo : (iz (a % 10)).toInt = a % 10 := iz_toInt (by omega) (by omega)
      refine ⟨fun q => neg id (by omega) (by omega) (by omega) (by omega) (by omega) (by omega) (by omega), fun q => ?_, fun q => ?_, fun q => ?_, fun q => ?_, fun q => ?_, fun q => ?_, fun q => ?_, trivial⟩
      · refine en_150 (bk_150_0 ?_)
        rw [iz_toInt ha1 ha2]
        refine ⟨fun q2 => ⟨_, rfl, neg id (by omega) (by omega) (by omega) (by omega) (by omega) (by omega) (by omega)⟩, fun q2 => ?_, fun q2 => ?_, fun q2 => ?_, fun q2 => ?_, trivial⟩ <;>
        · rw [if_neg (by omega), if_neg (by omega), if_neg (by omega), if_neg (by omega), if_neg (by omega), if_neg (by omega), if_pos (by omega), q2] at h
          rw [hC.1 _ (by omega)]
          exact ⟨_, rfl, h⟩
      · refine c_hasBoard hS hC (fun q2 => ⟨_, rfl, fun _ => neg id (by omega) (by omega) (by omega) (by omega) (by omega) (by omega) (by omega), fun q' => absurd rfl q'⟩) (fun i hi hy => ⟨_, rfl, fun q' => absurd q' (by decide), fun _ => ?_⟩)
        rw [iz_eq (by omega) (by omega) (by omega) (by omega)] at hy
        rw [if_pos (by omega), show (a - 10).toNat = i by omega] at h
        rw [hy, iz_clN (by omega), hC.2.1 i (by omega)]
        exact ⟨iz_inN (by omega) (by omega), h⟩
      · refine c_hasBidder hS hC (fun q2 => ⟨_, rfl, fun _ => neg id (by omega) (by omega) (by omega) (by omega) (by omega) (by omega) (by omega), fun q' => absurd rfl q'⟩) (fun i hi hy => ⟨_, rfl, fun q' => absurd q' (by decide), fun _ => ?_⟩)
        rw [iz_eq (by omega) (by omega) (by omega) (by omega)] at hy
        rw [if_neg (by omega), if_pos (by omega), show (a - 20).toNat = i by omega] at h
        rw [hy, iz_clN (by omega), hC.2.2.2.1 i (by omega)]
        exact ⟨iz_inN (by omega) (by omega), h⟩
      · refine c_hasBidder hS hC (fun q2 => ⟨_, rfl, fun _ => neg id (by omega) (by omega) (by omega) (by omega) (by omega) (by omega) (by omega), fun q' => absurd rfl q'⟩) (fun i hi hy => ⟨_, rfl, fun q' => absurd q' (by decide), fun _ => ?_⟩)
        rw [iz_eq (by omega) (by omega) (by omega) (by omega)] at hy
        rw [if_neg (by omega), if_neg (by omega), if_pos (by omega), show (a - 30).toNat = i by omega] at h
        rw [hy, iz_clN (by omega), hC.2.2.2.2.1 i (by omega)]
        exact ⟨iz_inN (by omega) (by omega), h⟩
      · refine c_hasBidder hS hC (fun q2 => ⟨_, rfl, fun _ => neg id (by omega) (by omega) (by omega) (by omega) (by omega) (by omega) (by omega), fun q' => absurd rfl q'⟩) (fun i hi hy => ⟨_, rfl, fun q' => absurd q' (by decide), fun _ => ?_⟩)
        rw [iz_eq (by omega) (by omega) (by omega) (by omega)] at hy
        rw [if_neg (by omega), if_neg (by omega), if_neg (by omega), if_pos (by omega), show (a - 40).toNat = i by omega] at h
        rw [hy, iz_clN (by omega), hC.2.2.2.2.2.1 i (by omega)]
        exact ⟨iz_inN (by omega) (by omega), h⟩
      · refine c_hasBidder hS hC (fun q2 => ⟨_, rfl, fun _ => neg id (by omega) (by omega) (by omega) (by omega) (by omega) (by omega) (by omega), fun q' => absurd rfl q'⟩) (fun i hi hy => ⟨_, rfl, fun q' => absurd q' (by decide), fun _ => ?_⟩)
        rw [iz_eq (by omega) (by omega) (by omega) (by omega)] at hy
        rw [if_neg (by omega), if_neg (by omega), if_neg (by omega), if_neg (by omega), if_pos (by omega), show (a - 50).toNat = i by omega] at h
        rw [hy, iz_clN (by omega), hC.2.2.2.2.2.2.1 i (by omega)]
        exact ⟨iz_inN (by omega) (by omega), h⟩
      · refine c_hasBidder hS hC (fun q2 => ⟨_, rfl, fun _ => neg id (by omega) (by omega) (by omega) (by omega) (by omega) (by omega) (by omega), fun q' => absurd rfl q'⟩) (fun i hi hy => ⟨_, rfl, fun q' => absurd q' (by decide), fun _ => ?_⟩)
        rw [iz_eq (by omega) (by omega) (by omega) (by omega)] at hy
        rw [if_neg (by omega), if_neg (by omega), if_neg (by omega), if_neg (by omega), if_neg (by omega), if_pos (by omega), show (a - 60).toNat = i by omega] at h
        rw [hy, iz_clN (by omega), hC.2.2.2.2.2.2.2.1 i (by omega)]
        exact ⟨iz_inN (by omega) (by omega), h⟩
    · rw [if_neg (by omega), if_neg (by omega), if_neg (by omega), if_neg (by omega), if_neg (by omega), if_neg (by omega), if_neg (by omega)] at h
      exact h
theorem r_about {x w : Int32} (hW : rW M cnt SS) (h : ∀ M', Off rSl M M' → Q (some (zi (iz (fS cnt SS x (fun S => gAbout S w) (-1))))) M') : zEv Γ 194 [zo 10 0 0, zi x, zi w] M Q := by
  refine en_194 (bk_194_0 (r_isSale hW (fun q => ⟨_, rfl, fun q' => absurd rfl q', fun _ => ?_⟩) (fun s M1 hs hx ho hB => ⟨_, rfl, fun _ => ?_, fun q' => absurd q' (by decide)⟩)))
  · have h := h M (Off.rf M)
    rw [fS_out q] at h
    exact h
  · have hS := (hW.2.2 s hs).2
    have h6 := hS.1
    have h7 := hS.2.1
    have h := h M1 ho
    rw [fS_in hs hW.2.1 hx] at h
    obtain ⟨a, ha1, ha2, rfl⟩ := iz_ex w
    unfold gAbout at h
    rw [iz_toInt ha1 ha2] at h
    have of_ : ∀ {Q1 : zQ} {y : Int32} (k : Nat), k < 240 → y = iz (k : Int) → Q1 (some (zi (iz (SS s k)))) M1 → zEv Γ 177 [zo 10 0 0, zi y] M1 Q1 := fun {Q1 y} k hk hy hq => r_of hB k hk hy hq
    have rng_ : ∀ {Q1 : zQ} (lo : Int) (hi : Int), 0 ≤ lo ∧ lo < 100 → 0 ≤ hi ∧ hi < 100 → (lo ≤ a ∧ a ≤ hi → Q1 (some (zi 1)) M1) → (¬ (lo ≤ a ∧ a ≤ hi) → Q1 (some (zi 0)) M1) → zEv Γ 154 [zi (iz a), zi (iz lo), zi (iz hi)] M1 Q1 := fun {Q1} lo hi b1 b2 k1 k2 => r_isIn (by omega) (by omega) (by omega) (fun q1 q2 => k1 ⟨q1, q2⟩) (fun q => k2 (by omega))
    rw [hB.2.1]
    have e9 : (9 : Int32) + iz (SS s 0) = iz (9 + SS s 0) := by rw [iz_nat, iz_add]
    have e19 : (19 : Int32) + iz (SS s 1) = iz (19 + SS s 1) := by rw [iz_nat, iz_add]
    have e29 : (29 : Int32) + iz (SS s 1) = iz (29 + SS s 1) := by rw [iz_nat, iz_add]
    have e39 : (39 : Int32) + iz (SS s 1) = iz (39 + SS s 1) := by rw [iz_nat, iz_add]
    have e49 : (49 : Int32) + iz (SS s 1) = iz (49 + SS s 1) := by rw [iz_nat, iz_add]
    have e59 : (59 : Int32) + iz (SS s 1) = iz (59 + SS s 1) := by rw [iz_nat, iz_add]
    have yes : ∀ {A B : Prop}, B → (((1 : Int32) = 0 → A) ∧ (¬ (1 : Int32) = 0 → B)) := fun hb => ⟨fun q => absurd q (by decide), fun _ => hb⟩
    have no : ∀ {A B : Prop}, A → (((0 : Int32) = 0 → A) ∧ (¬ (0 : Int32) = 0 → B)) := fun ha => ⟨fun _ => ha, fun q => absurd rfl q⟩
    rw [e9]
    refine rng_ 10 _ (by omega) (by omega) (fun q1 => ⟨_, rfl, yes (of_ (4 + (a - 10).toNat) (by omega) (by rw [iz_nat, iz_nat, iz_add, iz_sub]; congr 1; show (4 : Int) + a - 10 = _; omega) ⟨_, rfl, by rw [if_pos q1] at h; exact h⟩)⟩) (fun q1 => ⟨_, rfl, no ?_⟩)
    rw [if_neg q1] at h
    rw [hB.2.2.1, e19]
    refine rng_ 20 _ (by omega) (by omega) (fun q1 => ⟨_, rfl, yes (of_ (10 + (a - 20).toNat) (by omega) (by rw [iz_nat, iz_nat, iz_add, iz_sub]; congr 1; show (10 : Int) + a - 20 = _; omega) ⟨_, rfl, by rw [if_pos q1] at h; exact h⟩)⟩) (fun q2 => ⟨_, rfl, no ?_⟩)
    rw [if_neg q2] at h
    rw [hB.2.2.1, e29]
    refine rng_ 30 _ (by omega) (by omega) (fun q1 => ⟨_, rfl, yes (of_ (17 + (a - 30).toNat) (by omega) (by rw [iz_nat, iz_nat, iz_add, iz_sub]; congr 1; show (17 : Int) + a - 30 = _; omega) ⟨_, rfl, by rw [if_pos q1] at h; exact h⟩)⟩) (fun q3 => ⟨_, rfl, no ?_⟩)
    rw [if_neg q3] at h
    rw [hB.2.2.1, e39]
    refine rng_ 40 _ (by omega) (by omega) (fun q1 => ⟨_, rfl, yes (of_ (24 + (a - 40).toNat) (by omega) (by rw [iz_nat, iz_nat, iz_add, iz_sub]; congr 1; show (24 : Int) + a - 40 = _; omega) ⟨_, rfl, by rw [if_pos q1] at h; exact h⟩)⟩) (fun q4 => ⟨_, rfl, no ?_⟩)
    rw [if_neg q4] at h
    rw [hB.2.2.1, e49]
    refine rng_ 50 _ (by omega) (by omega) (fun q1 => ⟨_, rfl, yes (of_ (31 + (a - 50).toNat) (by omega) (by rw [iz_nat, iz_nat, iz_add, iz_sub]; congr 1; show (31 : Int) + a - 50 = _; omega) ⟨_, rfl, by rw [if_pos q1] at h; exact h⟩)⟩) (fun q5 => ⟨_, rfl, no ?_⟩)
    rw [if_neg q5] at h
    rw [hB.2.2.1, e59]
    refine rng_ 60 _ (by omega) (by omega) (fun q1 => ⟨_, rfl, yes (of_ (80 + (a - 60).toNat) (by omega) (by rw [iz_nat, iz_nat, iz_add, iz_sub]; congr 1; show (80 : Int) + a - 60 = _; omega) ⟨_, rfl, by rw [if_pos q1] at h; exact h⟩)⟩) (fun q6 => ⟨_, rfl, no ?_⟩)
    rw [if_neg q6] at h
    refine rng_ 0 3 (by omega) (by omega) (fun q1 => ⟨_, rfl, yes (of_ a.toNat (by omega) (by congr 1; omega) ⟨_, rfl, by rw [if_pos q1] at h; exact h⟩)⟩) (fun q7 => ⟨_, rfl, no ?_⟩)
    rw [if_neg q7] at h
    exact h
end Z47
