/-! what the class asks and lets pay -/
/-- d boards from k on, with the scores from q on -/
def hs2 (S : SB) (sc : Nat → Int) : Nat → Nat → Nat → Int
  | _, _, 0 => 0
  | k, q, d + 1 => (pas S k - pas S (k + 1)) * sc q + hs2 S sc (k + 1) (q + 1) d
def askV (S : SB) (sc : Nat → Int) (bid mark : Int) (j q : Nat) : Int :=
  if S 2 = 0 then bid * pas S j else if S 2 = 1 then pas S j * max 1 (upI (sc q) mark) else upI (hs2 S sc j q ((S 0).toNat - j)) mark
theorem hs2_hsum {S : SB} {bd mk : Nat → Int} {l : List Nat} : ∀ (d k : Nat), hs2 S (sco bd mk l) k (k + 1) d = hsum S bd mk l k d
  | 0, _ => rfl
  | d + 1, k => by
    simp only [hs2, hsum]
    rw [hs2_hsum d (k + 1)]
theorem hs2_b {S : SB} {sc : Nat → Int} (hS : SOK S) (hsc : ∀ k, 0 ≤ sc k ∧ sc k ≤ 891) : ∀ (d k q : Nat), 0 ≤ hs2 S sc k q d ∧ hs2 S sc k q d ≤ 891 * (pas S k - pas S (k + d))
  | 0, k, q => by simp [hs2]
  | d + 1, k, q => by
    obtain ⟨h1, h2⟩ := hs2_b hS hsc d (k + 1) (q + 1)
    obtain ⟨h3, h4⟩ := hsc q
    have h5 := pas_m hS k
    have h6 : 0 ≤ (pas S k - pas S (k + 1)) * sc q := Int.mul_nonneg (by omega) h3
    have h7 : (pas S k - pas S (k + 1)) * sc q ≤ (pas S k - pas S (k + 1)) * 891 := Int.mul_le_mul_of_nonneg_left h4 (by omega)
    simp only [hs2]
    rw [show k + (d + 1) = k + 1 + d by omega]
    constructor <;> omega
theorem askV_b {S : SB} {sc : Nat → Int} (hS : SOK S) (hsc : ∀ k, 0 ≤ sc k ∧ sc k ≤ 891) {bid mark : Int} (hb : 0 ≤ bid ∧ bid ≤ 99) (hm : 1 ≤ mark) (j q : Nat) : 0 ≤ askV S sc bid mark j q ∧ askV S sc bid mark j q ≤ 88209 := by
  have hp := pas_b hS j
  unfold askV
  split
  · have : bid * pas S j ≤ 99 * 99 := Int.mul_le_mul hb.2 hp.2 hp.1 (by omega)
    have := Int.mul_nonneg hb.1 hp.1
    omega
  · split
    · have hu := upI_b (hsc q).1 hm
      have h9 := hsc q
      have hm1 : 0 ≤ max 1 (upI (sc q) mark) ∧ max 1 (upI (sc q) mark) ≤ 891 := by omega
      have : pas S j * max 1 (upI (sc q) mark) ≤ 99 * 891 := Int.mul_le_mul hp.2 hm1.2 hm1.1 (by omega)
      have := Int.mul_nonneg hp.1 hm1.1
      omega
    · have h1 := hs2_b hS hsc ((S 0).toNat - j) j q
      have hu := upI_b h1.1 hm
      have hp2 := pas_b hS (j + ((S 0).toNat - j))
      omega
theorem payS_ask {S : SB} {bd mk : Nat → Int} {l : List Nat} {bar : Int} (hS : SOK S) (hbar : 0 ≤ bar) {j : Nat} (hb : bar ≤ bd (l.getD j 0)) : max (bar * pas S j) (askV S (sco bd mk l) (bd (l.getD j 0)) (mk (l.getD j 0)) j (j + 1)) = payS S bd mk bar l j := by
  have hp := pas_b hS j
  unfold askV payS
  split
  · have := Int.mul_le_mul_of_nonneg_right hb hp.1
    omega
  · split
    · generalize upI (sco bd mk l (j + 1)) (mk (l.getD j 0)) = u
      rcases Int.lt_or_le bar (max 1 u) with q | q
      · have h1 := Int.mul_le_mul_of_nonneg_left (Int.le_of_lt q) hp.1
        rw [Int.mul_comm bar, show max (max bar 1) u = max 1 u by omega]
        omega
      · have h1 := Int.mul_le_mul_of_nonneg_left q hp.1
        rw [Int.mul_comm bar, show max (max bar 1) u = bar by omega]
        omega
    · rw [hs2_hsum]
section Z37
variable {Γ : zC} {Q : zQ} {M : zM} {t ts : Nat} {S : SB} {n nb : Nat} {bd mk : Nat → Int} {l : List Nat} {bar : Int}
theorem c_askFor {j q : Nat} {bid mark : Int} (hS : SOK S) (hnb : S 0 = (nb : Int)) (hL : cL M t S bar bd mk l) (hsc : ∀ k, 0 ≤ sco bd mk l k ∧ sco bd mk l k ≤ 891) (hj : j < nb) (hq : q + (nb - j) ≤ 14) (hb : 0 ≤ bid ∧ bid ≤ 99) (hm : 1 ≤ mark ∧ mark ≤ 99) (h : Q (some (zi (iz (askV S (sco bd mk l) bid mark j q)))) M) : zEv Γ 30 [zo 2 t 0, zi (iz (j : Int)), zi (iz bid), zi (iz mark), zi (iz (q : Int))] M Q := by
  have h6 := hS.1
  have hw := hS.2.2.1
  have hp := pas_b hS j
  have hscq := hsc q
  obtain ⟨l1, l2, l3, l4, l5, l6, l7⟩ := hL
  unfold askV at h
  refine en_30 (bk_30_0 ?_)
  rw [l2, iz_clN (show j < 2147483648 by omega), iz_clN (show q < 2147483648 by omega), l5 j (by omega), l7 q (by omega), iz0, iz1, iz_eq (by omega) (by omega) (by omega) (by omega), iz_eq (by omega) (by omega) (by omega) (by omega), iz_le (by omega) (by omega) (by omega) (by omega)]
  have j7 := iz_inN (i := j) (n := 7) (by omega) (by omega)
  refine ⟨fun q0 => ⟨j7, ?_⟩, fun q0 => ⟨fun _ => ⟨fun q1 => ?_, fun q1 => ⟨j7, iz_inN (by omega) (by omega), by rw [iz_eq (by omega) (by omega) (by omega) (by omega)]; omega, ?_⟩⟩, fun q5 => by omega⟩⟩
  · rw [if_pos q0] at h
    rw [iz_mul]
    exact h
  · rw [if_neg q0, if_neg q1] at h
    have loop : ∀ (d k : Nat) (acc : Int), k + d = nb → j ≤ k → 0 ≤ acc → acc + hs2 S (sco bd mk l) k (q + (k - j)) d = hs2 S (sco bd mk l) j q (nb - j) → zGo Γ 30 Q 60 [some (zo 2 t 0), some (zi (iz (j : Int))), none, some (zi (iz mark)), some (zi (iz (q : Int))), some (zi (iz acc)), some (zi (iz (k : Int)))] [] M := by
      intro d
      induction d with
      | zero =>
        intro k acc hk hjk ha he
        refine bk_30_60 ⟨fun _ => ?_, fun q5 => ?_⟩
        · have hh := hs2_b hS hsc (nb - j) j q
          have hp2 := pas_b hS (j + (nb - j))
          simp only [hs2] at he
          rw [iz0, iz1, iz_add, iz_sub, iz_div (by omega) (by omega) (by omega) (by omega), iz_eq (by omega) (by omega) (by omega) (by omega)]
          refine ⟨by omega, ?_⟩
          rw [hnb, show ((nb : Int).toNat - j) = nb - j by omega, ← he, Int.add_zero] at h
          exact h
        · exfalso
          rw [l1, iz_le (by omega) (by omega) (by omega) (by omega)] at q5
          omega
      | succ d ih =>
        intro k acc hk hjk ha he
        refine bk_30_60 ⟨fun q5 => ?_, fun _ => ?_⟩
        · exfalso
          rw [l1, iz_le (by omega) (by omega) (by omega) (by omega)] at q5
          omega
        · have eq1 : iz (q : Int) + iz (k : Int) - iz (j : Int) = iz ((q + (k - j) : Nat) : Int) := by
            rw [iz_add, iz_sub]; congr 1; omega
          rw [iz_s, eq1, iz_clN (by omega), iz_clN (by omega), iz_clN (by omega), l5 k (by omega), l5 (k + 1) (by omega), l7 _ (by omega), iz_sub, iz_mul, iz_add]
          simp only [hs2] at he
          have h3 := hsc (q + (k - j))
          have h5 := pas_m hS k
          have h6 : 0 ≤ (pas S k - pas S (k + 1)) * sco bd mk l (q + (k - j)) := Int.mul_nonneg (by omega) h3.1
          refine ⟨iz_inN (by omega) (by omega), iz_inN (by omega) (by omega), iz_inN (by omega) (by omega), ih (k + 1) _ (by omega) (by omega) (by omega) ?_⟩
          rw [show q + (k + 1 - j) = q + (k - j) + 1 by omega]
          omega
    exact loop (nb - j) j 0 (by omega) (Nat.le_refl _) (by omega) (by rw [Nat.sub_self]; simp)
  · rw [if_neg q0, if_pos q1] at h
    have hu := upI_b hscq.1 hm.1
    unfold upI at hu h
    rw [iz_add, iz_sub, iz_div (by omega) (by omega) (by omega) (by omega), iz_max (by omega) (by omega) (by omega) (by omega), iz_mul]
    exact h
theorem c_count (hS : SOK S) (hnb : S 0 = (nb : Int)) (hL : cL M t S bar bd mk l) (hlen : l.length ≤ 8) (h : Q (some (zi (iz ((min l.length nb : Nat) : Int)))) M) : zEv Γ 26 [zo 2 t 0] M Q := by
  have h6 := hS.1
  refine en_26 (bk_26_0 ?_)
  rw [hL.2.2.2.1, hL.1, iz_min (by omega) (by omega) (by omega) (by omega), hnb, show min (l.length : Int) (nb : Int) = ((min l.length nb : Nat) : Int) by omega]
  exact h
/-- the pay for a board: his who stands there, else 0 -/
def payB (S : SB) (bd mk : Nat → Int) (bar : Int) (l : List Nat) (nb j : Nat) : Int := if j < min l.length nb then payS S bd mk bar l j else 0
theorem c_payAt (hS : SOK S) (hnb : S 0 = (nb : Int)) (hL : cL M t S bar bd mk l) (hlen : l.length ≤ 8) (hr : rng n bd mk) (hl : ∀ x ∈ l, x < n) (hbar : 0 ≤ bar ∧ bar ≤ 99) (hbl : ∀ x ∈ l, bar ≤ bd x) {j : Nat} (hj : j < 100) (h : Q (some (zi (iz (payB S bd mk bar l nb j)))) M) : zEv Γ 29 [zo 2 t 0, zi (iz (j : Int))] M Q := by
  have h6 := hS.1
  have hp := pas_b hS j
  refine en_29 (bk_29_0 ⟨fun q => ?_, fun _ => c_count hS hnb hL hlen ⟨_, rfl, ?_⟩⟩)
  · exfalso
    rw [iz0, iz_lt (by omega) (by omega) (by omega) (by omega)] at q
    omega
  · rw [iz_lt (by omega) (by omega) (by omega) (by omega)]
    unfold payB at h
    refine ⟨fun q => ?_, fun q => ?_⟩
    · have hjl : j < l.length := by omega
      obtain ⟨v1, v2, v3⟩ := hL.2.2.2.2.2.1 j hjl
      obtain ⟨⟨r1, r2⟩, r3, r4⟩ := hr _ (hl _ (getD_mem hjl))
      have hsc := sco_b hr hl
      rw [if_pos (by omega)] at h
      rw [iz_s, iz_clN (by omega), v2, v3, hL.2.2.1, hL.2.2.2.2.1 j (by omega)]
      refine ⟨iz_inN (by omega) (by omega), iz_inN (by omega) (by omega), iz_inN (by omega) (by omega), c_askFor hS hnb hL hsc (by omega) (by omega) ⟨r1, r2⟩ (by omega) ⟨_, rfl, ?_⟩⟩
      have ha := askV_b hS hsc ⟨r1, r2⟩ r3 j (j + 1)
      have hbp : 0 ≤ bar * pas S j ∧ bar * pas S j ≤ 99 * 99 := ⟨Int.mul_nonneg hbar.1 hp.1, Int.mul_le_mul hbar.2 hp.2 hp.1 (by omega)⟩
      rw [iz_mul, iz_max (by omega) (by omega) (by omega) (by omega), payS_ask hS hbar.1 (hbl _ (getD_mem hjl))]
      exact h
    · rw [if_neg (by omega)] at h
      exact h
end Z37
