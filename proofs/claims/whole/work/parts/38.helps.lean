def gnS (w : Nat → Nat → Int) (pay : Nat → Int) (o : Option Nat) (i : Nat) : Int := match o with
  | some j => w i j - pay j
  | none => 0
/-- the class's sales -/
def cW (M : zM) (cnt : Nat) (SS : Nat → SB) : Prop := M.1 8 0 0 4 = iz (cnt : Int) ∧ cnt ≤ 3 ∧ ∀ s, s < cnt → cS M s (SS s) ∧ SOK (SS s)
theorem opI_b {l : List Nat} {nb i : Nat} (hnb : nb ≤ 6) : -1 ≤ opI (plc l nb i) ∧ opI (plc l nb i) ≤ 6 := by
  cases h : plc l nb i with
  | none => simp [opI]
  | some j =>
    have := plc_lt h
    simp only [opI]
    omega
theorem payS_b {S : SB} {bd mk : Nat → Int} {l : List Nat} {bar : Int} {n : Nat} (hS : SOK S) (hr : rng n bd mk) (hl : ∀ x ∈ l, x < n) (hbar : 0 ≤ bar ∧ bar ≤ 99) (hbl : ∀ x ∈ l, bar ≤ bd x) {j : Nat} (hj : j < l.length) : 0 ≤ payS S bd mk bar l j ∧ payS S bd mk bar l j ≤ 88209 := by
  obtain ⟨⟨r1, r2⟩, r3, r4⟩ := hr _ (hl _ (getD_mem hj))
  have hp := pas_b hS j
  have ha := askV_b hS (sco_b hr hl) ⟨r1, r2⟩ r3 j (j + 1)
  have hbp : 0 ≤ bar * pas S j ∧ bar * pas S j ≤ 99 * 99 := ⟨Int.mul_nonneg hbar.1 hp.1, Int.mul_le_mul hbar.2 hp.2 hp.1 (by omega)⟩
  rw [← payS_ask hS hbar.1 (hbl _ (getD_mem hj))]
  omega
theorem payB_b {S : SB} {bd mk : Nat → Int} {l : List Nat} {bar : Int} {n nb : Nat} (hS : SOK S) (hr : rng n bd mk) (hl : ∀ x ∈ l, x < n) (hbar : 0 ≤ bar ∧ bar ≤ 99) (hbl : ∀ x ∈ l, bar ≤ bd x) (j : Nat) : 0 ≤ payB S bd mk bar l nb j ∧ payB S bd mk bar l nb j ≤ 88209 := by
  unfold payB
  split
  · exact payS_b hS hr hl hbar hbl (by omega)
  · omega
theorem sumTo_z {f : Nat → Int} {a : Nat} : ∀ d, (∀ j, a ≤ j → j < a + d → f j = 0) → sumTo f (a + d) = sumTo f a
  | 0, _ => rfl
  | d + 1, h => by
    show sumTo f (a + d) + f (a + d) = _
    rw [h (a + d) (by omega) (by omega), sumTo_z d (fun j h1 h2 => h j h1 (by omega))]
    omega
theorem sumTo_b {f : Nat → Int} {B : Int} (h : ∀ j, 0 ≤ f j ∧ f j ≤ B) : ∀ n : Nat, 0 ≤ sumTo f n ∧ sumTo f n ≤ B * n
  | 0 => by simp [sumTo]
  | n + 1 => by
    have h1 := sumTo_b h n
    have h2 := h n
    have e : B * ((n + 1 : Nat) : Int) = B * n + B := by
      rw [show ((n + 1 : Nat) : Int) = (n : Int) + 1 by omega, Int.mul_add, Int.mul_one]
    rw [e]
    simp only [sumTo]
    omega
section Z38
variable {Γ : zC} {Q : zQ} {M : zM} {t ts b cnt : Nat} {S : SB} {SS : Nat → SB} {n nb : Nat} {bd mk : Nat → Int} {ex : Nat → Bool} {l : List Nat} {bar : Int}
theorem c_saleAt {x : Int32} (hW : cW M cnt SS) (hf : (x.toInt < 0 ∨ (cnt : Int) ≤ x.toInt) → Q (some zn) M) (ht : ∀ s : Nat, s < cnt → x = iz (s : Int) → Q (some (zo 7 s 0)) M) : zEv Γ 149 [zo 9 0 0, zi x] M Q := by
  have h3 := hW.2.1
  obtain ⟨a, ha1, ha2, rfl⟩ := iz_ex x
  rw [iz_toInt ha1 ha2] at hf
  refine en_149 (bk_149_0 ?_)
  rw [hW.1, iz0, iz_nat, iz_lt (by omega) (by omega) (by omega) (by omega), iz_le (by omega) (by omega) (by omega) (by omega), iz_le (by omega) (by omega) (by omega) (by omega)]
  refine ⟨fun q => hf (by omega), fun q1 => ⟨fun q => hf (by omega), fun q2 => ⟨fun q => absurd (show (3 : Int) ≤ a from q) (by omega), fun _ => ?_⟩⟩⟩
  obtain ⟨s, rfl⟩ := Int.eq_ofNat_of_zero_le (show 0 ≤ a by omega)
  rw [iz_clN (by omega), show 3 * 0 + s = s by omega]
  exact ⟨iz_inN (by omega) (by omega), ht s (by omega) rfl⟩
theorem c_hasBidder {x : Int32} (hS : SOK S) (hC : cS M ts S) (hf : (x.toInt < 0 ∨ S 1 ≤ x.toInt) → Q (some (zi 0)) M) (ht : ∀ i : Nat, (i : Int) < S 1 → x = iz (i : Int) → Q (some (zi 1)) M) : zEv Γ 103 [zo 7 ts 0, zi x] M Q := by
  have h7 := hS.2.1
  obtain ⟨a, ha1, ha2, rfl⟩ := iz_ex x
  rw [iz_toInt ha1 ha2] at hf
  refine en_103 (bk_103_0 ?_)
  rw [hC.1 1 (by omega), iz0, iz_lt (by omega) (by omega) (by omega) (by omega), iz_le (by omega) (by omega) (by omega) (by omega)]
  refine ⟨fun q => ⟨Or.inl rfl, hf (by omega)⟩, fun q1 => ⟨fun q => ⟨Or.inl rfl, hf (by omega)⟩, fun q2 => ⟨Or.inr rfl, ?_⟩⟩⟩
  obtain ⟨i, rfl⟩ := Int.eq_ofNat_of_zero_le (show 0 ≤ a by omega)
  exact ht i (by omega) rfl
theorem c_hasBoard {x : Int32} (hS : SOK S) (hC : cS M ts S) (hf : (x.toInt < 0 ∨ S 0 ≤ x.toInt) → Q (some (zi 0)) M) (ht : ∀ i : Nat, (i : Int) < S 0 → x = iz (i : Int) → Q (some (zi 1)) M) : zEv Γ 102 [zo 7 ts 0, zi x] M Q := by
  have h6 := hS.1
  obtain ⟨a, ha1, ha2, rfl⟩ := iz_ex x
  rw [iz_toInt ha1 ha2] at hf
  refine en_102 (bk_102_0 ?_)
  rw [hC.1 0 (by omega), iz0, iz_lt (by omega) (by omega) (by omega) (by omega), iz_le (by omega) (by omega) (by omega) (by omega)]
  refine ⟨fun q => ⟨Or.inl rfl, hf (by omega)⟩, fun q1 => ⟨fun q => ⟨Or.inl rfl, hf (by omega)⟩, fun q2 => ⟨Or.inr rfl, ?_⟩⟩⟩
  obtain ⟨i, rfl⟩ := Int.eq_ofNat_of_zero_le (show 0 ≤ a by omega)
  exact ht i (by omega) rfl
theorem c_worthBy (hS : SOK S) (hC : cS M ts S) {v : Int} (hv : 0 ≤ v ∧ v ≤ 99) {i j : Nat} (hi : i < 7) (hj : j < 6) (h : Q (some (zi (iz (wor S v i j)))) M) : zEv Γ 105 [zo 7 ts 0, zi (iz (i : Int)), zi (iz (j : Int)), zi (iz v)] M Q := by
  have h1 := hS.2.2.2.2.1 j hj
  have h2 := hS.2.2.2.2.2.2.2.2.2.1 (6 * i + j) (by omega)
  have h3 : v * S (4 + j) ≤ 99 * 99 := Int.mul_le_mul hv.2 h1.2 h1.1 (by omega)
  have h4 : 0 ≤ v * S (4 + j) := Int.mul_nonneg hv.1 h1.1
  unfold wor at h
  refine en_105 (bk_105_0 ?_)
  have e : iz (i : Int) * 6 + iz (j : Int) = iz ((6 * i + j : Nat) : Int) := by
    rw [iz_nat, iz_mul, iz_add]; congr 1; omega
  rw [e, iz_clN (by omega), iz_clN (by omega), hC.2.1 j hj, hC.2.2.2.2.2.2.2.2.2.2.1 (6 * i + j) (by omega), iz_mul, iz_add, iz0, iz_le (by omega) (by omega) (by omega) (by omega)]
  refine ⟨iz_inN (by omega) (by omega), iz_inN (by omega) (by omega), fun q => ?_, fun q => ?_⟩
  · rw [show max 0 (v * S (4 + j) + S (38 + (6 * i + j))) = 0 by omega] at h
    exact h
  · rw [show max 0 (v * S (4 + j) + S (38 + (6 * i + j))) = v * S (4 + j) + S (38 + (6 * i + j)) by omega] at h
    exact h
theorem c_worthTo (hS : SOK S) (hC : cS M ts S) {i j : Nat} (hi : i < 7) (hj : j < 6) (h : Q (some (zi (iz (wor S (S (10 + i)) i j)))) M) : zEv Γ 104 [zo 7 ts 0, zi (iz (i : Int)), zi (iz (j : Int))] M Q := by
  refine en_104 (bk_104_0 ?_)
  rw [iz_clN (by omega), hC.2.2.2.1 i hi]
  exact ⟨iz_inN (by omega) (by omega), c_worthBy hS hC (hS.2.2.2.2.2.1 i hi) hi hj ⟨_, rfl, h⟩⟩
theorem c_boardOf (hS : SOK S) (hnb : S 0 = (nb : Int)) (hL : cL M t S bar bd mk l) (hlen : l.length ≤ 8) (hl : ∀ x ∈ l, x < 100) {i : Nat} (hi : i < 100) (h : Q (some (zi (iz (opI (plc l nb i))))) M) : zEv Γ 28 [zo 2 t 0, zi (iz (i : Int))] M Q := by
  have h6 := hS.1
  have loop : ∀ (d j : Nat), j + d = min l.length nb → fnd (fun j => l.getD j 0 == i) j d = plc l nb i → zGo Γ 28 Q 7 [some (zo 2 t 0), some (zi (iz (i : Int))), some (zi (iz ((min l.length nb : Nat) : Int))), some (zi (iz (j : Int)))] [] M := by
    intro d
    induction d with
    | zero =>
      intro j hj he
      simp only [fnd] at he
      rw [← he] at h
      refine bk_28_7 ?_
      rw [iz_le (by omega) (by omega) (by omega) (by omega)]
      exact ⟨fun _ => h, fun q => by omega⟩
    | succ d ih =>
      intro j hj he
      refine bk_28_7 ?_
      have hx := hl _ (getD_mem (show j < l.length by omega))
      rw [iz_le (by omega) (by omega) (by omega) (by omega), iz_clN (by omega), (hL.2.2.2.2.2.1 j (by omega)).1, iz_eq (by omega) (by omega) (by omega) (by omega)]
      refine ⟨fun q => by omega, fun _ => ⟨iz_inN (by omega) (by omega), fun q => ?_, fun q => ?_⟩⟩
      · rw [iz_s]
        refine ih (j + 1) (by omega) ?_
        rw [← he]
        conv => rhs; rw [fnd]
        rw [if_neg (by intro z; have z : l.getD j 0 = i := eq_of_beq z; omega)]
      · rw [fnd, if_pos (beq_iff_eq.mpr (show l.getD j 0 = i by omega))] at he
        rw [← he] at h
        exact h
  exact en_28 (bk_28_0 (c_count hS hnb hL hlen ⟨_, rfl, loop (min l.length nb) 0 (by omega) rfl⟩))
theorem c_allPays (hS : SOK S) (hnb : S 0 = (nb : Int)) (hL : cL M t S bar bd mk l) (hlen : l.length ≤ 8) (hr : rng n bd mk) (hl : ∀ x ∈ l, x < n) (hbar : 0 ≤ bar ∧ bar ≤ 99) (hbl : ∀ x ∈ l, bar ≤ bd x) (h : Q (some (zi (iz (sumTo (payB S bd mk bar l nb) nb)))) M) : zEv Γ 31 [zo 2 t 0] M Q := by
  have h6 := hS.1
  have hpb := payB_b (nb := nb) hS hr hl hbar hbl
  have loop : ∀ (d j : Nat), j + d = min l.length nb → zGo Γ 31 Q 9 [some (zo 2 t 0), some (zi (iz ((min l.length nb : Nat) : Int))), some (zi (iz (sumTo (payB S bd mk bar l nb) j))), some (zi (iz (j : Int)))] [] M := by
    intro d
    induction d with
    | zero =>
      intro j hj
      refine bk_31_9 ?_
      rw [iz_le (by omega) (by omega) (by omega) (by omega)]
      refine ⟨fun _ => ?_, fun q => by omega⟩
      have e := sumTo_z (f := payB S bd mk bar l nb) (a := j) (nb - j) (fun k h1 h2 => by unfold payB; rw [if_neg (by omega)])
      rw [show j + (nb - j) = nb by omega] at e
      rw [← e]
      exact h
    | succ d ih =>
      intro j hj
      refine bk_31_9 ?_
      rw [iz_le (by omega) (by omega) (by omega) (by omega)]
      refine ⟨fun q => by omega, fun _ => c_payAt hS hnb hL hlen hr hl hbar hbl (by omega) ⟨_, rfl, ?_⟩⟩
      rw [iz_add, iz_s]
      exact ih (j + 1) (by omega)
  exact en_31 (bk_31_0 (c_count hS hnb hL hlen ⟨_, rfl, loop (min l.length nb) 0 (by omega)⟩))
theorem c_gainOf (hS : SOK S) (hnb : S 0 = (nb : Int)) (hC : cS M ts S) (hL : cL M t S bar bd mk l) (hlen : l.length ≤ 8) (hr : rng n bd mk) (hl : ∀ x ∈ l, x < n) (hn : n ≤ 100) (hbar : 0 ≤ bar ∧ bar ≤ 99) (hbl : ∀ x ∈ l, bar ≤ bd x) {i : Nat} (hi : i < 7) (h : Q (some (zi (iz (gnS (fun i j => wor S (S (10 + i)) i j) (payB S bd mk bar l nb) (plc l nb i) i)))) M) : zEv Γ 34 [zo 2 t 0, zo 7 ts 0, zi (iz (i : Int))] M Q := by
  have h6 := hS.1
  refine en_34 (bk_34_0 (c_boardOf hS hnb hL hlen (fun x hx => by have := hl x hx; omega) (by omega) ⟨_, rfl, ?_⟩))
  cases hp : plc l nb i with
  | none =>
    rw [hp] at h
    exact ⟨fun q => absurd rfl q, fun _ => h⟩
  | some j =>
    have hj := plc_lt hp
    rw [hp] at h
    simp only [opI, gnS] at h ⊢
    rw [iz_m1, iz_eq (by omega) (by omega) (by omega) (by omega)]
    refine ⟨fun _ => c_worthTo hS hC hi (by omega) ⟨_, rfl, c_payAt hS hnb hL hlen hr hl hbar hbl (by omega) ⟨_, rfl, ?_⟩⟩, fun q => by omega⟩
    rw [iz_sub]
    exact h
theorem r_isBidder {x : Int32} (hS : SOK S) (hB : rB M b S) (hf : (x.toInt < 0 ∨ S 1 ≤ x.toInt) → Q (some (zi 0)) M) (ht : ∀ i : Nat, (i : Int) < S 1 → x = iz (i : Int) → Q (some (zi 1)) M) : zEv Γ 181 [zo 10 0 0, zi x] M Q := by
  have h7 := hS.2.1
  obtain ⟨a, ha1, ha2, rfl⟩ := iz_ex x
  rw [iz_toInt ha1 ha2] at hf
  refine en_181 (bk_181_0 ?_)
  rw [hB.2.2.1, iz0, iz1, iz_sub]
  refine r_isIn (by omega) (by omega) (by omega) (fun q1 q2 => ⟨_, rfl, Or.inr rfl, ?_⟩) (fun q => ⟨_, rfl, Or.inl rfl, hf (by omega)⟩)
  obtain ⟨i, rfl⟩ := Int.eq_ofNat_of_zero_le q1
  exact ht i (by omega) rfl
theorem r_isBoard {x : Int32} (hS : SOK S) (hB : rB M b S) (hf : (x.toInt < 0 ∨ S 0 ≤ x.toInt) → Q (some (zi 0)) M) (ht : ∀ i : Nat, (i : Int) < S 0 → x = iz (i : Int) → Q (some (zi 1)) M) : zEv Γ 182 [zo 10 0 0, zi x] M Q := by
  have h6 := hS.1
  obtain ⟨a, ha1, ha2, rfl⟩ := iz_ex x
  rw [iz_toInt ha1 ha2] at hf
  refine en_182 (bk_182_0 ?_)
  rw [hB.2.1, iz0, iz1, iz_sub]
  refine r_isIn (by omega) (by omega) (by omega) (fun q1 q2 => ⟨_, rfl, Or.inr rfl, ?_⟩) (fun q => ⟨_, rfl, Or.inl rfl, hf (by omega)⟩)
  obtain ⟨i, rfl⟩ := Int.eq_ofNat_of_zero_le q1
  exact ht i (by omega) rfl
/-- the reference's pays are these -/
def rPy (M : zM) (nb : Nat) (f : Nat → Int) : Prop := ∀ j, j < nb → M.1 10 0 21 j = iz (f j)
theorem r_gainOf (hS : SOK S) (hnb : S 0 = (nb : Int)) (hB : rB M b S) (ho : rOr M l) (hl : ∀ x ∈ l, x < 8) (hlen : l.length ≤ 8) {f : Nat → Int} (hp : rPy M nb f) {tl tg : Int} (htl : M.1 10 0 0 21 = iz tl) (htl2 : -1 ≤ tl ∧ tl < 100) (htg : M.1 10 0 0 22 = iz tg ∧ 0 ≤ tg ∧ tg ≤ 99 ∨ tl = -1) {i : Nat} (hi : i < 7) (h : Q (some (zi (iz (gnS (fun i j => wor S (valO S tl tg i) i j) f (plc l nb i) i)))) M) : zEv Γ 192 [zo 10 0 0, zi (iz (i : Int))] M Q := by
  have h6 := hS.1
  refine en_192 (bk_192_0 (r_placeOf hS hnb hB ho hl hlen (by omega) ⟨_, rfl, ?_⟩))
  cases hq : plc l nb i with
  | none =>
    rw [hq] at h
    exact ⟨fun q => absurd q (by decide), fun _ => h⟩
  | some j =>
    have hj := plc_lt hq
    rw [hq] at h
    simp only [opI, gnS] at h ⊢
    rw [iz0, iz_le (by omega) (by omega) (by omega) (by omega), iz_clN (by omega)]
    refine ⟨fun _ => r_worthOf hS hB htl htl2 htg hi (by omega) ⟨_, rfl, iz_inN (by omega) (by omega), ?_⟩, fun q => by omega⟩
    rw [hp j (by omega), iz_sub]
    exact h
theorem r_takeNow (hS : SOK S) (hnb : S 0 = (nb : Int)) (hB : rB M b S) {f : Nat → Int} (hp : rPy M nb f) (h : Q (some (zi (iz (sumTo f nb)))) M) : zEv Γ 200 [zo 10 0 0] M Q := by
  have h6 := hS.1
  have loop : ∀ (d j : Nat), j + d = nb → zGo Γ 200 Q 4 [some (zo 10 0 0), some (zi (iz (sumTo f j))), some (zi (iz (j : Int)))] [] M := by
    intro d
    induction d with
    | zero =>
      intro j hj
      have : j = nb := by omega
      subst this
      refine bk_200_4 ⟨fun _ => h, fun q => ?_⟩
      exfalso
      rw [hB.2.1, iz_le (by omega) (by omega) (by omega) (by omega)] at q
      omega
    | succ d ih =>
      intro j hj
      refine bk_200_4 ⟨fun q => ?_, fun _ => ⟨iz_inN (by omega) (by omega), ?_⟩⟩
      · exfalso
        rw [hB.2.1, iz_le (by omega) (by omega) (by omega) (by omega)] at q
        omega
      · rw [iz_clN (by omega), hp j (by omega), iz_add, iz_s]
        exact ih (j + 1) (by omega)
  exact en_200 (bk_200_0 (loop nb 0 (by omega)))
end Z38
