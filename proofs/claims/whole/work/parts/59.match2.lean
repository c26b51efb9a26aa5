/-! the class's best rows -/
def ch (S : SB) (B : Bool) (R : Nat) (w : Nat → Nat → Int) (j s a : Nat) : Option Nat := fnd (fun i => may S s a i && decide (cnd S B R w j s a i = mv S B R w (R - j) s a)) 0 (S 1).toNat
def stt (S : SB) (B : Bool) (R : Nat) (w : Nat → Nat → Int) : Nat → Nat × Nat
  | 0 => (0, 7)
  | j + 1 => match ch S B R w j (stt S B R w j).1 (stt S B R w j).2 with
    | none => ((stt S B R w j).1, 7)
    | some i => ((stt S B R w j).1 ||| 2 ^ i, lbB B i)
def row (S : SB) (B : Bool) (R : Nat) (w : Nat → Nat → Int) (j : Nat) : Option Nat := ch S B R w j (stt S B R w j).1 (stt S B R w j).2
def exR (x : Int) (k : Nat) : Nat := if 0 ≤ x ∧ x ≤ k then k + 1 else k
def exN (x : Int) (j : Nat) : Nat := if 0 ≤ x ∧ x < j then j - 1 else j
def wT (S : SB) (tl tg : Int) (i j : Nat) : Int := wor S (valO S tl tg i) i j
def oSv (c t f _i : Nat) : Prop := c = 3 ∧ t = 0 ∧ f = 5
theorem ch_lt {S : SB} {B : Bool} {R : Nat} {w : Nat → Nat → Int} {j s a i : Nat} (h : ch S B R w j s a = some i) : i < (S 1).toNat ∧ may S s a i = true := by
  obtain ⟨_, b, c⟩ := fnd_lt _ _ _ h
  rw [Bool.and_eq_true] at c
  exact ⟨by omega, c.1⟩
theorem stt_ok {S : SB} (hS : SOK S) {B : Bool} {R : Nat} {w : Nat → Nat → Int} : ∀ j, (stt S B R w j).1 < 2 ^ (S 1).toNat ∧ pc (stt S B R w j).1 ≤ j ∧ okl S B (stt S B R w j).1 (stt S B R w j).2
  | 0 => ⟨Nat.two_pow_pos _, by show pc 0 ≤ 0; decide, Or.inl rfl⟩
  | j + 1 => by
    have h7 := hS.2.1
    have ih := stt_ok hS (B := B) (R := R) (w := w) j
    have hp := bit_p (S 1).toNat (by omega)
    cases hc : ch S B R w j (stt S B R w j).1 (stt S B R w j).2 with
    | none =>
      rw [stt, hc]
      exact ⟨ih.1, by have := ih.2.1; simp only; omega, Or.inl rfl⟩
    | some i =>
      have hi := ch_lt hc
      have hb := bit_or (stt S B R w j).1 (by omega) i (by omega)
      rw [stt, hc]
      refine ⟨bit_lt _ (by omega) _ ih.1 i hi.1, by have := ih.2.1; simp only; omega, ?_⟩
      unfold okl lbB
      cases B
      · exact Or.inl rfl
      · exact Or.inr ⟨rfl, hi.1, bit_self _ i⟩
section Z59
variable {Γ : zC} {Q : zQ} {M : zM} {ts R : Nat} {S : SB} {B : Bool} {rw : Nat → Nat} {W : Nat → Nat → Int}
theorem c_comes {j s k : Nat} (hs : s < 128) (hk : k < 8) (hj : j < 10) (ht : (s &&& gn k) = gn k ∧ pc s ≤ j + pc (gn k) → Q (some (zi 1)) M) (hf : ¬ ((s &&& gn k) = gn k ∧ pc s ≤ j + pc (gn k)) → Q (some (zi 0)) M) : zEv Γ 52 [zi (iz (j : Int)), zi (iz (s : Int)), zi (iz ((gn k : Nat) : Int))] M Q := by
  have hb := bit_gn s hs k hk
  have hg : gn k < 128 := by have := (bit_gn 0 (by omega) k hk).2.2.1; rw [Nat.zero_or] at this; exact this
  have p1 : pc s ≤ 7 := by unfold pc; omega
  have p2 : pc (gn k) ≤ 7 := by unfold pc; omega
  refine en_52 (bk_52_0 ?_)
  rw [hb.2.1, iz_eq (by omega) (by omega) (by omega) (by omega)]
  refine ⟨fun q => ⟨Or.inl rfl, hf (by omega)⟩, fun q => c_bitCount hs ⟨_, rfl, c_bitCount hg ⟨_, rfl, ?_⟩⟩⟩
  rw [iz_add, iz_lt (by omega) (by omega) (by omega) (by omega)]
  exact ⟨fun q2 => ⟨Or.inl rfl, hf (by omega)⟩, fun q2 => ⟨Or.inr rfl, ht (by omega)⟩⟩
theorem c_solve {k : Nat} (hS : SOK S) (hC : cS M ts S) (hM : cMt M S B R rw W) (hk : k = 7 ∨ k < (S 1).toNat)
    (h : ∀ M', Off oSv M M' → cCl M' S B R (wR W rw (S 1).toNat) (gn k) 0 → Q (some (zi (iz (mv S B R (wR W rw (S 1).toNat) R (gn k) 7)))) M') : zEv Γ 51 [zo 3 0 0, zo 7 ts 0, zi (iz ((gn k : Nat) : Int))] M Q := by
  have h7 := hS.2.1
  have h6 := hS.1
  have hR := hM.2.2.1
  have hp := bit_p (S 1).toNat (by omega)
  have hp1 : 0 < 2 ^ (S 1).toNat := Nat.two_pow_pos _
  have hg : gn k < 2 ^ (S 1).toNat := by
    unfold gn
    split
    · exact hp1
    · exact Nat.pow_lt_pow_right (by omega) (by omega)
  have en : S 1 = ((S 1).toNat : Int) := by omega
  have e2 : M.1 3 0 0 2 = iz (R : Int) := hM.1
  have e1 : M.1 7 ts 0 1 = iz ((S 1).toNat : Int) := by rw [hC.1 1 (by omega)]; congr 1
  refine en_51 (bk_51_0 ?_)
  rw [e1, bit_sh _ (by omega), e2]
  refine c_slot (c := 0) ⟨_, rfl, ?_⟩
  rw [e2]
  refine c_slot (b := 0) (c := 0) ⟨_, rfl, ?_⟩
  -- the outer loop
  have outer : ∀ (d D : Nat) (M2 : zM), D + d = R → (Off oSv M M2 ∧ cCl M2 S B R (wR W rw (S 1).toNat) (gn k) (R - D)) → zGo Γ 51 Q 58 [some (zo 3 0 0), some (zo 7 ts 0), some (zi (iz ((gn k : Nat) : Int))), some (zi (iz ((2 ^ (S 1).toNat : Nat) : Int))), none, some (zi (iz ((R : Int) - 1 - (D : Int)))), none] [] M2 := by
    refine zloop (P := fun D M2 => Off oSv M M2 ∧ cCl M2 S B R (wR W rw (S 1).toNat) (gn k) (R - D)) (G := fun D M2 => zGo Γ 51 Q 58 [some (zo 3 0 0), some (zo 7 ts 0), some (zi (iz ((gn k : Nat) : Int))), some (zi (iz ((2 ^ (S 1).toNat : Nat) : Int))), none, some (zi (iz ((R : Int) - 1 - (D : Int)))), none] [] M2) (n := R) ?_ ?_
    · rintro M2 ⟨o2, c2⟩
      rw [Nat.sub_self] at c2
      refine bk_51_58 ⟨fun _ => ?_, fun q => ?_⟩
      · refine c_slot (a := 0) (c := 7) ⟨_, rfl, iz_inN (by omega) (by omega), ?_⟩
        rw [iz_clN (by omega), c2 0 (gn k) 7 (by omega) (by omega) hg (Or.inr ⟨Nat.and_self _, by omega⟩) (Or.inl rfl)]
        exact h M2 o2 c2
      · rw [iz0, iz_lt (by omega) (by omega) (by omega) (by omega)] at q
        omega
    · rintro D M2 hD ⟨o2, c2⟩ ih
      have ej : (R : Int) - 1 - (D : Int) = ((R - 1 - D : Nat) : Int) := by omega
      rw [ej]
      refine bk_51_58 ⟨fun q => ?_, fun _ => ?_⟩
      · rw [iz0, iz_lt (by omega) (by omega) (by omega) (by omega)] at q
        omega
      have e3 : R - D = (R - 1 - D) + 1 := by omega
      rw [e3] at c2
      generalize hjd : R - 1 - D = j at *
      refine zloop (P := fun s M3 => Off oSv M M3 ∧ cCl M3 S B R (wR W rw (S 1).toNat) (gn k) (j + 1) ∧ ∀ s' a, s' < s → s' < 2 ^ (S 1).toNat → okc (gn k) R j s' → okl S B s' a → M3.1 3 0 5 ((j * 128 + s') * 8 + a) = iz (mv S B R (wR W rw (S 1).toNat) (R - j) s' a)) (G := fun s M3 => zGo Γ 51 Q 66 [some (zo 3 0 0), some (zo 7 ts 0), some (zi (iz ((gn k : Nat) : Int))), some (zi (iz ((2 ^ (S 1).toNat : Nat) : Int))), none, some (zi (iz (j : Int))), some (zi (iz (s : Int)))] [] M3) (n := 2 ^ (S 1).toNat) ?_ ?_ (2 ^ (S 1).toNat - gn k) (gn k) M2 (by omega) ⟨o2, c2, fun s' a h1 h2 h3 _ => ?_⟩
      · rintro M3 ⟨o3, c3, d3⟩
        refine bk_51_66 ⟨fun _ => ?_, fun q => ?_⟩
        · have := ih M3 ⟨o3, fun j' s' a' h1 h2 h3 h4 h5 => ?_⟩
          · rw [show iz (j : Int) + (-1) = iz ((R : Int) - 1 - ((D + 1 : Nat) : Int)) by rw [iz_m1, iz_add]; congr 1; omega]
            exact this
          · by_cases e : j' = j
            · subst e
              exact d3 s' a' h3 h3 h4 h5
            · exact c3 j' s' a' (by omega) h2 h3 h4 h5
        · rw [iz_le (by omega) (by omega) (by omega) (by omega)] at q
          omega
      · rintro s M3 hs ⟨o3, c3, d3⟩ ih3
        have C3 := hC.off o3 (by unfold oSv; intro f i; omega)
        have M3t := hM.off o3 (by unfold oSv; omega) (by unfold oSv; omega) (by unfold oSv; omega) (by unfold oSv; omega)
        refine bk_51_66 ⟨fun q => ?_, fun _ => c_comes (by omega) (by omega) (by omega) (fun q => ⟨_, rfl, fun z => absurd z (by decide), fun _ => ?_⟩) (fun q => ⟨_, rfl, fun _ => ?_, fun z => absurd rfl z⟩)⟩
        · rw [iz_le (by omega) (by omega) (by omega) (by omega)] at q
          omega
        · refine c_solveAt hS C3 M3t (by omega) hs c3 q (fun M4 o4 d4 => ⟨rfl, ?_⟩)
          rw [iz_s]
          refine ih3 M4 ⟨o3.tr (o4.wk (by unfold oAt oSv; intro c t f i; omega)), c3.off hS o4 (by omega), fun s' a h1 h2 h3 h4 => ?_⟩
          by_cases e : s' = s
          · subst e
            exact d4 a h4
          · have ha8 : a < 8 := by
              rcases h4 with e | ⟨_, e, _⟩ <;> omega
            rw [o4.1 _ _ _ _ (by unfold oAt; omega)]
            exact d3 s' a (by omega) h2 h3 h4
        · rw [iz_s]
          refine ih3 M3 ⟨o3, c3, fun s' a h1 h2 h3 h4 => ?_⟩
          by_cases e : s' = s
          · subst e
            rcases h3 with e | e
            · omega
            · exact absurd e q
          · exact d3 s' a (by omega) h2 h3 h4
      · rcases h3 with e | ⟨e, _⟩
        · omega
        · have := Nat.and_le_left (n := s') (m := gn k)
          omega
  -- the zeros
  have zer : ∀ (d x : Nat) (M2 : zM), x + d = (R * 128 + 2 ^ (S 1).toNat) * 8 + 0 → (Off oSv M M2 ∧ ∀ i, (R * 128 + 0) * 8 + 0 ≤ i → i < x → M2.1 3 0 5 i = iz 0) → zGo Γ 51 Q 29 [some (zo 3 0 0), some (zo 7 ts 0), some (zi (iz ((gn k : Nat) : Int))), some (zi (iz ((2 ^ (S 1).toNat : Nat) : Int))), some (zi (iz (((R * 128 + 2 ^ (S 1).toNat) * 8 + 0 : Nat) : Int))), some (zi (iz (x : Int))), none] [] M2 := by
    refine zloop (P := fun x M2 => Off oSv M M2 ∧ ∀ i, (R * 128 + 0) * 8 + 0 ≤ i → i < x → M2.1 3 0 5 i = iz 0) (G := fun x M2 => zGo Γ 51 Q 29 [some (zo 3 0 0), some (zo 7 ts 0), some (zi (iz ((gn k : Nat) : Int))), some (zi (iz ((2 ^ (S 1).toNat : Nat) : Int))), some (zi (iz (((R * 128 + 2 ^ (S 1).toNat) * 8 + 0 : Nat) : Int))), some (zi (iz (x : Int))), none] [] M2) (n := (R * 128 + 2 ^ (S 1).toNat) * 8 + 0) ?_ ?_
    · rintro M2 ⟨o2, z2⟩
      refine bk_51_29 ⟨fun _ => ?_, fun q => ?_⟩
      · rw [o2.1 _ _ _ _ (by unfold oSv; omega), e2, iz1, iz_sub]
        have := outer R 0 M2 (by omega) ⟨o2, fun j s a h1 h2 h3 h4 h5 => ?_⟩
        · rw [show (R : Int) - 1 - ((0 : Nat) : Int) = (R : Int) - 1 by omega] at this
          exact this
        · have ej : j = R := by omega
          subst ej
          rw [Nat.sub_self, z2 _ (by omega) (by rcases h5 with e | ⟨_, e, _⟩ <;> omega)]
          rfl
      · rw [iz_le (by omega) (by omega) (by omega) (by omega)] at q
        omega
    · rintro x M2 hx ⟨o2, z2⟩ ih
      refine bk_51_29 ⟨fun q => ?_, fun _ => ⟨iz_inN (by omega) (by omega), ?_⟩⟩
      · rw [iz_le (by omega) (by omega) (by omega) (by omega)] at q
        omega
      · rw [iz_clN (by omega), iz_s]
        refine ih _ ⟨o2.w _ (by unfold oSv; omega), fun i h1 h2 => ?_⟩
        by_cases e : i = x
        · rw [e, zw_eq]
          rfl
        · rw [zw_ne (by omega)]
          exact z2 i h1 (by omega)
  exact zer (2 ^ (S 1).toNat * 8) _ M (by omega) ⟨Off.rf M, fun i h1 h2 => by omega⟩
def oLs (c t f i : Nat) : Prop := c = 3 ∧ t = 0 ∧ (f = 0 ∧ i = 2 ∨ f = 2)
theorem c_listBoards {x : Int} (hS : SOK S) (hC : cS M ts S) (hx : -1 ≤ x ∧ x < 100) (h : ∀ M', Off oLs M M' → M'.1 3 0 0 2 = iz ((exN x (S 0).toNat : Nat) : Int) → (∀ k, k < exN x (S 0).toNat → M'.1 3 0 2 k = iz ((exR x k : Nat) : Int)) → Q none M') : zEv Γ 50 [zo 3 0 0, zo 7 ts 0, zi (iz x)] M Q := by
  have h6 := hS.1
  refine en_50 (bk_50_0 ?_)
  refine zloop (P := fun j M2 => Off oLs M M2 ∧ M2.1 3 0 0 2 = iz ((exN x j : Nat) : Int) ∧ ∀ k, k < exN x j → M2.1 3 0 2 k = iz ((exR x k : Nat) : Int)) (G := fun j M2 => zGo Γ 50 Q 7 [some (zo 3 0 0), some (zo 7 ts 0), some (zi (iz x)), some (zi (iz (j : Int)))] [] M2) (n := (S 0).toNat) ?_ ?_ (S 0).toNat 0 _ (by omega) ⟨(Off.rf M).w _ (by unfold oLs; omega), by rw [zw_eq]; unfold exN; split <;> rfl, fun k hk => by unfold exN at hk; split at hk <;> omega⟩
  · rintro M2 ⟨o2, l2, k2⟩
    have C2 := hC.off o2 (by unfold oLs; intro f i; omega)
    refine bk_50_7 ⟨fun _ => h M2 o2 l2 k2, fun q => ?_⟩
    rw [C2.1 0 (by omega), iz_le (by omega) (by omega) (by omega) (by omega)] at q
    omega
  · rintro j M2 hj ⟨o2, l2, k2⟩ ih
    have C2 := hC.off o2 (by unfold oLs; intro f i; omega)
    refine bk_50_7 ⟨fun q => ?_, fun _ => ⟨fun q => ?_, fun q => ?_⟩⟩
    · rw [C2.1 0 (by omega), iz_le (by omega) (by omega) (by omega) (by omega)] at q
      omega
    · rw [iz_eq (by omega) (by omega) (by omega) (by omega)] at q
      have e : exN x (j + 1) = exN x j := by
        unfold exN
        rw [if_pos (by omega), if_neg (by omega)]
        omega
      rw [iz_s]
      exact ih M2 ⟨o2, by rw [e]; exact l2, by rw [e]; exact k2⟩
    · rw [iz_eq (by omega) (by omega) (by omega) (by omega)] at q
      have en : exN x j ≤ j := by unfold exN; split <;> omega
      have e : exN x (j + 1) = exN x j + 1 := by
        unfold exN
        by_cases z : 0 ≤ x ∧ x < (j : Int)
        · rw [if_pos (by omega), if_pos (by omega)]
          omega
        · rw [if_neg (by omega), if_neg (by omega)]
      have er : exR x (exN x j) = j := by
        unfold exR exN
        by_cases z : 0 ≤ x ∧ x < (j : Int)
        · rw [if_pos z, if_pos (by omega)]
          omega
        · rw [if_neg z, if_neg (by omega)]
      rw [l2, iz_clN (by omega)]
      have z2 : (zw M2 3 0 2 (exN x j) (iz (j : Int))).1 3 0 0 2 = iz ((exN x j : Nat) : Int) := (zw_ne (by omega)).trans l2
      refine ⟨iz_inN (by omega) (by omega), ?_⟩
      rw [z2, iz_s, iz_s]
      refine ih _ ⟨(o2.w _ (by unfold oLs; omega)).w _ (by unfold oLs; omega), by rw [zw_eq, e], fun k hk => ?_⟩
      rw [zw_ne (by omega)]
      by_cases z : k = exN x j
      · rw [z, zw_eq, er]
      · rw [zw_ne (by omega)]
        exact k2 k (by omega)
theorem c_weigh (hS : SOK S) (hC : cS M ts S) (h : ∀ M', Off (fun c t f _ => c = 3 ∧ t = 0 ∧ f = 1) M M' → (∀ i j, i < (S 1).toNat → j < (S 0).toNat → M'.1 3 0 1 (i * 6 + j) = iz (worS S i j)) → Q none M') : zEv Γ 42 [zo 3 0 0, zo 7 ts 0] M Q := by
  have h6 := hS.1
  have h7 := hS.2.1
  refine en_42 (bk_42_0 ?_)
  refine zloop (P := fun i M2 => Off (fun c t f _ => c = 3 ∧ t = 0 ∧ f = 1) M M2 ∧ ∀ i' j, i' < i → j < (S 0).toNat → M2.1 3 0 1 (i' * 6 + j) = iz (worS S i' j)) (G := fun i M2 => zGo Γ 42 Q 2 [some (zo 3 0 0), some (zo 7 ts 0), some (zi (iz (i : Int))), none] [] M2) (n := (S 1).toNat) ?_ ?_ (S 1).toNat 0 M (by omega) ⟨Off.rf M, fun i' j h1 _ => by omega⟩
  · rintro M2 ⟨o2, w2⟩
    have C2 := hC.off o2 (by intro f i; omega)
    refine bk_42_2 ⟨fun _ => h M2 o2 w2, fun q => ?_⟩
    rw [C2.1 1 (by omega), iz_le (by omega) (by omega) (by omega) (by omega)] at q
    omega
  · rintro i M2 hi ⟨o2, w2⟩ ih
    have C2 := hC.off o2 (by intro f i; omega)
    refine bk_42_2 ⟨fun q => ?_, fun _ => ?_⟩
    · rw [C2.1 1 (by omega), iz_le (by omega) (by omega) (by omega) (by omega)] at q
      omega
    refine zloop (P := fun j M3 => Off (fun c t f _ => c = 3 ∧ t = 0 ∧ f = 1) M M3 ∧ (∀ i' j', i' < i → j' < (S 0).toNat → M3.1 3 0 1 (i' * 6 + j') = iz (worS S i' j')) ∧ ∀ j', j' < j → M3.1 3 0 1 (i * 6 + j') = iz (worS S i j')) (G := fun j M3 => zGo Γ 42 Q 12 [some (zo 3 0 0), some (zo 7 ts 0), some (zi (iz (i : Int))), some (zi (iz (j : Int)))] [] M3) (n := (S 0).toNat) ?_ ?_ (S 0).toNat 0 M2 (by omega) ⟨o2, w2, fun j' h1 => by omega⟩
    · rintro M3 ⟨o3, w3, v3⟩
      have C3 := hC.off o3 (by intro f i; omega)
      refine bk_42_12 ⟨fun _ => ?_, fun q => ?_⟩
      · rw [iz_s]
        refine ih M3 ⟨o3, fun i' j h1 h2 => ?_⟩
        by_cases e : i' = i
        · subst e
          exact v3 j h2
        · exact w3 i' j (by omega) h2
      · rw [C3.1 0 (by omega), iz_le (by omega) (by omega) (by omega) (by omega)] at q
        omega
    · rintro j M3 hj ⟨o3, w3, v3⟩ ih3
      have C3 := hC.off o3 (by intro f i; omega)
      refine bk_42_12 ⟨fun q => ?_, fun _ => c_worthTo hS C3 (by omega) (by omega) ⟨_, rfl, ?_⟩⟩
      · rw [C3.1 0 (by omega), iz_le (by omega) (by omega) (by omega) (by omega)] at q
        omega
      · rw [show (6 : Int32) = iz 6 from rfl, iz_mul, iz_add, show (i : Int) * 6 + (j : Int) = ((i * 6 + j : Nat) : Int) by omega, iz_clN (by omega), iz_s]
        refine ⟨iz_inN (by omega) (by omega), ih3 _ ⟨o3.w _ ⟨rfl, rfl, rfl⟩, fun i' j' h1 h2 => ?_, fun j' h1 => ?_⟩⟩
        · rw [zw_ne (by omega)]
          exact w3 i' j' h1 h2
        · by_cases e : j' = j
          · rw [e, zw_eq]
            rfl
          · rw [zw_ne (by omega)]
            exact v3 j' (by omega)
def oRw (c t f _i : Nat) : Prop := c = 3 ∧ t = 0 ∧ f = 4
theorem c_chooseFor {j s a : Nat} (hS : SOK S) (hC : cS M ts S) (hM : cMt M S B R rw W) (hj : j < R) (hs : s < 2 ^ (S 1).toNat) (hpc : pc s ≤ j) (hl : okl S B s a) (hcl : cCl M S B R (wR W rw (S 1).toNat) 0 0) (h : Q (some (zi (iz (opI (ch S B R (wR W rw (S 1).toNat) j s a))))) M) : zEv Γ 55 [zo 3 0 0, zo 7 ts 0, zi (iz (j : Int)), zi (iz (s : Int)), zi (iz (a : Int))] M Q := by
  have h6 := hS.1
  have h7 := hS.2.1
  have hR := hM.2.2.1
  have hp := bit_p (S 1).toNat (by omega)
  have hw := hM.w hS
  have ha : a ≤ 7 := by rcases hl with e | ⟨_, e, _⟩ <;> omega
  have hmb := mv_b hS hw (B := B) (R - j) (by omega) s a ha
  refine en_55 (bk_55_0 (c_slot ⟨_, rfl, iz_inN (by omega) (by omega), ?_⟩))
  rw [iz_clN (by omega), hcl j s a (by omega) (by omega) hs (Or.inr ⟨Nat.and_zero _, by omega⟩) hl]
  refine nloop (G := fun i => fnd (fun i => may S s a i && decide (cnd S B R (wR W rw (S 1).toNat) j s a i = mv S B R (wR W rw (S 1).toNat) (R - j) s a)) i ((S 1).toNat - i) = ch S B R (wR W rw (S 1).toNat) j s a → zGo Γ 55 Q 17 [some (zo 3 0 0), some (zo 7 ts 0), some (zi (iz (j : Int))), some (zi (iz (s : Int))), some (zi (iz (a : Int))), some (zi (iz (mv S B R (wR W rw (S 1).toNat) (R - j) s a))), some (zi (iz (i : Int)))] [] M) (n := (S 1).toNat) (fun e => ?_) (fun i hi ih e => ?_) (S 1).toNat 0 (by omega) rfl
  · rw [Nat.sub_self] at e
    rw [← e] at h
    refine bk_55_17 ⟨fun _ => h, fun q => ?_⟩
    rw [hC.1 1 (by omega), iz_le (by omega) (by omega) (by omega) (by omega)] at q
    omega
  · rw [show (S 1).toNat - i = ((S 1).toNat - (i + 1)) + 1 by omega, fnd_s i] at e
    refine bk_55_17 ⟨fun q => ?_, fun _ => c_may hS hC (by omega) ha (by omega) (fun hm => ⟨_, rfl, fun z => absurd z (by decide), fun _ => ?_⟩) (fun hm => ⟨_, rfl, fun _ => ?_, fun z => absurd rfl z⟩)⟩
    · rw [hC.1 1 (by omega), iz_le (by omega) (by omega) (by omega) (by omega)] at q
      omega
    · have hb := bit_or s (by omega) i (by omega)
      have hcb := cnd_b (s := s) (B := B) hS hw hR hj ha (show i < 7 by omega)
      refine c_him hS hC hM hj (by omega) ha hi (hcl (j + 1) (s ||| 2 ^ i) (lbB B i) (by omega) (by omega) (bit_lt _ (by omega) s hs i hi) (Or.inr ⟨Nat.and_zero _, by omega⟩) ?_) ⟨_, rfl, ?_⟩
      · unfold okl lbB
        cases B
        · exact Or.inl rfl
        · exact Or.inr ⟨rfl, hi, bit_self s i⟩
      · rw [iz_eq (by omega) (by omega) (by omega) (by omega), iz_s]
        refine ⟨fun q => ih ?_, fun q => ?_⟩
        · rw [if_neg (by simp [hm, q])] at e
          exact e
        · rw [if_pos (by simp [hm, q])] at e
          rw [← e] at h
          exact h
    · rw [iz_s]
      refine ih ?_
      rw [if_neg (by simp [hm])] at e
      exact e
theorem c_chooseRow (hS : SOK S) (hC : cS M ts S) (hM : cMt M S B R rw W) (hcl : cCl M S B R (wR W rw (S 1).toNat) 0 0) (h : ∀ M', Off oRw M M' → (∀ j, j < R → M'.1 3 0 4 j = iz (opI (row S B R (wR W rw (S 1).toNat) j))) → Q none M') : zEv Γ 54 [zo 3 0 0, zo 7 ts 0] M Q := by
  have h6 := hS.1
  have h7 := hS.2.1
  have hR := hM.2.2.1
  have hp := bit_p (S 1).toNat (by omega)
  refine en_54 (bk_54_0 ?_)
  refine zloop (P := fun j M2 => Off oRw M M2 ∧ ∀ j', j' < j → M2.1 3 0 4 j' = iz (opI (row S B R (wR W rw (S 1).toNat) j'))) (G := fun j M2 => zGo Γ 54 Q 8 [some (zo 3 0 0), some (zo 7 ts 0), some (zi (iz (((stt S B R (wR W rw (S 1).toNat) j).1 : Nat) : Int))), some (zi (iz (((stt S B R (wR W rw (S 1).toNat) j).2 : Nat) : Int))), some (zi (iz (j : Int))), none] [] M2) (n := R) ?_ ?_ R 0 M (by omega) ⟨Off.rf M, fun j' h1 => by omega⟩
  · rintro M2 ⟨o2, r2⟩
    have M2t := hM.off o2 (by unfold oRw; omega) (by unfold oRw; omega) (by unfold oRw; omega) (by unfold oRw; omega)
    refine bk_54_8 ⟨fun _ => h M2 o2 r2, fun q => ?_⟩
    rw [M2t.1, iz_le (by omega) (by omega) (by omega) (by omega)] at q
    omega
  · rintro j M2 hj ⟨o2, r2⟩ ih
    have C2 := hC.off o2 (by unfold oRw; intro f i; omega)
    have M2t := hM.off o2 (by unfold oRw; omega) (by unfold oRw; omega) (by unfold oRw; omega) (by unfold oRw; omega)
    have cl2 : cCl M2 S B R (wR W rw (S 1).toNat) 0 0 := fun j s a h1 h2 h3 h4 h5 => (o2.1 _ _ _ _ (by unfold oRw; omega)).trans (hcl j s a h1 h2 h3 h4 h5)
    obtain ⟨s1, s2, s3⟩ := stt_ok hS (B := B) (R := R) (w := wR W rw (S 1).toNat) j
    have nx := ih (zw M2 3 0 4 j (iz (opI (row S B R (wR W rw (S 1).toNat) j)))) ⟨o2.w _ ⟨rfl, rfl, rfl⟩, fun j' h1 => by
      by_cases e : j' = j
      · rw [e, zw_eq]
      · rw [zw_ne (by omega)]
        exact r2 j' (by omega)⟩
    have M3t := M2t.off (Off.w (P := oRw) (Off.rf M2) (iz (opI (row S B R (wR W rw (S 1).toNat) j))) (c := 3) (t := 0) (f := 4) (i := j) ⟨rfl, rfl, rfl⟩) (by unfold oRw; omega) (by unfold oRw; omega) (by unfold oRw; omega) (by unfold oRw; omega)
    refine bk_54_8 ⟨fun q => ?_, fun _ => c_chooseFor hS C2 M2t hj s1 s2 s3 cl2 ⟨_, rfl, iz_inN (by omega) (by omega), ?_⟩⟩
    · rw [M2t.1, iz_le (by omega) (by omega) (by omega) (by omega)] at q
      omega
    · rw [iz_clN (by omega), iz_s]
      show zEv Γ 58 [zo 3 0 0, zi (iz (opI (row S B R (wR W rw (S 1).toNat) j)))] (zw M2 3 0 4 j (iz (opI (row S B R (wR W rw (S 1).toNat) j)))) _
      cases hr : row S B R (wR W rw (S 1).toNat) j with
      | none =>
        have hr' : ch S B R (wR W rw (S 1).toNat) j (stt S B R (wR W rw (S 1).toNat) j).1 (stt S B R (wR W rw (S 1).toNat) j).2 = none := hr
        rw [hr] at nx M3t
        refine c_lastN M3t ⟨_, rfl, fun _ => ?_, fun q => ?_⟩
        · rw [stt, hr'] at nx
          exact nx
        · rw [hr'] at q
          exact absurd rfl q
      | some i =>
        have hr' : ch S B R (wR W rw (S 1).toNat) j (stt S B R (wR W rw (S 1).toNat) j).1 (stt S B R (wR W rw (S 1).toNat) j).2 = some i := hr
        have hi := ch_lt hr'
        rw [hr] at nx M3t
        refine c_last1 M3t (show i < 7 by omega) ⟨_, rfl, fun q => ?_, fun _ => ?_⟩
        · rw [hr'] at q
          have q : iz (i : Int) = iz (-1) := q
          rw [iz_eq (by omega) (by omega) (by omega) (by omega)] at q
          omega
        · rw [stt, hr'] at nx
          rw [hr']
          have hb := bit_or (stt S B R (wR W rw (S 1).toNat) j).1 (by omega) i (by omega)
          show zGo Γ 54 Q 8 [_, _, some (zi (iz (((stt S B R (wR W rw (S 1).toNat) j).1 : Nat) : Int) ||| ((1 : Int32) <<< (iz (i : Int) &&& 31)))), _, _, _] [] _
          rw [hb.1]
          exact nx
end Z59
