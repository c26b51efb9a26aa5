/-! the class's rows of sorts -/
def cB1 (S : SB) (i k : Nat) : Int := if (k : Int) < S (80 + i) then S (87 + 2 * (3 * i + k)) else S (17 + i)
def cBd (S : SB) (p : Nat → Nat) : Nat → Int := fun i => cB1 S i (p i)
def chF (S : SB) (e : Int) (p : Nat → Nat) (i : Nat) : Int := if (i : Int) = e ∨ S (80 + i) ≤ (p i : Int) then 1 else S (88 + 2 * (3 * i + p i))
def chW (S : SB) (e : Int) (p : Nat → Nat) : Int := prodTo (chF S e p) (S 1).toNat
def pS (M : zM) (S : SB) (p : Nat → Nat) : Prop := ∀ i, i < (S 1).toNat → M.1 0 0 2 i = iz ((p i : Nat) : Int) ∧ M.1 0 0 3 i = iz (cBd S p i)
def oPk (c t f _i : Nat) : Prop := c = 0 ∧ t = 0 ∧ (f = 2 ∨ f = 3)
theorem lz_add (a b : Int) : lz a + lz b = lz (a + b) := (Int64.ofInt_add a b).symm
theorem lz_sub (a b : Int) : lz a - lz b = lz (a - b) := (Int64.ofInt_sub a b).symm
theorem lz_mul (a b : Int) : lz a * lz b = lz (a * b) := (Int64.ofInt_mul a b).symm
theorem iz_lz {a : Int} (h1 : -2147483648 ≤ a) (h2 : a < 2147483648) : (iz a).toInt64 = lz a := by
  apply Int64.toInt_inj.mp
  rw [Int32.toInt_toInt64, iz_toInt h1 h2]
  exact (Int64.toInt_ofInt_of_le (by omega) (by omega)).symm
theorem cB1_b {S : SB} (hS : SOK S) {i k : Nat} (hi : i < 7) (hk : k < 3) : 0 ≤ cB1 S i k ∧ cB1 S i k ≤ 99 := by
  unfold cB1
  split
  · exact (hS.2.2.2.2.2.2.2.2.2.2.2.1 (3 * i + k) (by omega)).1
  · exact hS.2.2.2.2.2.2.1 i hi
theorem upN_eq {p : Nat → Nat} {i k : Nat} : upN p i k i = k := by unfold upN; rw [if_pos rfl]
theorem upN_ne {p : Nat → Nat} {i k j : Nat} (h : j ≠ i) : upN p i k j = p j := by unfold upN; rw [if_neg h]
section Z65
variable {Γ : zC} {Q : zQ} {M : zM} {ts : Nat} {S : SB} {p : Nat → Nat}
theorem pS.off {P : Nat → Nat → Nat → Nat → Prop} {M M' : zM} (h : pS M S p) (ho : Off P M M') (h2 : ∀ i, ¬ P 0 0 2 i) (h3 : ∀ i, ¬ P 0 0 3 i) : pS M' S p := fun i hi => ⟨(ho.1 _ _ _ _ (h2 i)).trans (h i hi).1, (ho.1 _ _ _ _ (h3 i)).trans (h i hi).2⟩
theorem c_pick {i k : Nat} (hS : SOK S) (hC : cS M ts S) (hi : i < (S 1).toNat) (hk : k < 3) (h : ∀ M', Off oPk M M' → M'.1 0 0 2 i = iz (k : Int) → M'.1 0 0 3 i = iz (cB1 S i k) → (∀ j, j ≠ i → M'.1 0 0 2 j = M.1 0 0 2 j ∧ M'.1 0 0 3 j = M.1 0 0 3 j) → Q none M') : zEv Γ 9 [zo 0 0 0, zo 7 ts 0, zi (iz (i : Int)), zi (iz (k : Int))] M Q := by
  have h7 := hS.2.1
  have h11 := (hS.2.2.2.2.2.2.2.2.2.2.1 i (by omega)).1
  have ho : ∀ v : Int32, Off oPk M (zw (zw M 0 0 2 i (iz (k : Int))) 0 0 3 i v) := fun v => ((Off.rf M).w _ (by unfold oPk; omega)).w _ (by unfold oPk; omega)
  have fin : ∀ v : Int32, v = iz (cB1 S i k) → Q none (zw (zw M 0 0 2 i (iz (k : Int))) 0 0 3 i v) := fun v hv => h _ (ho v) (by rw [zw_ne (by omega), zw_eq]) (by rw [zw_eq, hv]) (fun j hj => ⟨by rw [zw_ne (by omega), zw_ne (by omega)], by rw [zw_ne (by omega), zw_ne (by omega)]⟩)
  have e11 : (zw M 0 0 2 i (iz (k : Int))).1 7 ts 11 i = iz (S (80 + i)) := (zw_ne (by omega)).trans (hC.2.2.2.2.2.2.2.1 i (by omega))
  have e8 : (zw M 0 0 2 i (iz (k : Int))).1 7 ts 8 i = iz (S (17 + i)) := (zw_ne (by omega)).trans (hC.2.2.2.2.1 i (by omega))
  have e12 : (k : Int) < S (80 + i) → (zw M 0 0 2 i (iz (k : Int))).1 7 ts 12 (3 * i + k) = iz (S (87 + 2 * (3 * i + k))) := fun z => (zw_ne (by omega)).trans (hC.2.2.2.2.2.2.2.2.1 (3 * i + k) (by omega) (by rw [show (3 * i + k) % 3 = k by omega, show (3 * i + k) / 3 = i by omega]; exact z))
  have v7 := iz_inN (i := i) (n := 7) (by omega) (by omega)
  unfold cB1 at fin
  refine en_9 (bk_9_0 ?_)
  rw [iz_clN (show i < 2147483648 by omega), e11, e8, iz_le (by omega) (by omega) (by omega) (by omega), show (3 : Int32) = iz 3 from rfl, iz_mul, iz_add, show (i : Int) * 3 + (k : Int) = ((3 * i + k : Nat) : Int) by omega, iz_clN (show 3 * i + k < 2147483648 by omega)]
  refine ⟨v7, v7, fun q => ⟨v7, v7, fin _ ?_⟩, fun q => ⟨iz_inN (by omega) (by omega), v7, fin _ ?_⟩⟩
  · rw [if_neg (by omega)]
  · rw [if_pos (by omega), e12 (by omega)]
theorem pS_up {M M' : zM} {i k : Nat} (h : pS M S p) (h2 : M'.1 0 0 2 i = iz (k : Int)) (h3 : M'.1 0 0 3 i = iz (cB1 S i k)) (h4 : ∀ j, j ≠ i → M'.1 0 0 2 j = M.1 0 0 2 j ∧ M'.1 0 0 3 j = M.1 0 0 3 j) : pS M' S (upN p i k) := fun j hj => by
  unfold cBd
  by_cases e : j = i
  · subst e
    rw [upN_eq]
    exact ⟨h2, h3⟩
  · rw [upN_ne e]
    exact ⟨(h4 j e).1.trans (h j hj).1, (h4 j e).2.trans (h j hj).2⟩
theorem c_firstRow (hS : SOK S) (hC : cS M ts S) (h : ∀ M', Off oPk M M' → pS M' S (fun _ => 0) → Q none M') : zEv Γ 8 [zo 0 0 0, zo 7 ts 0] M Q := by
  have h7 := hS.2.1
  refine en_8 (bk_8_0 ?_)
  refine zloop (P := fun i M2 => Off oPk M M2 ∧ ∀ j, j < i → M2.1 0 0 2 j = iz ((0 : Nat) : Int) ∧ M2.1 0 0 3 j = iz (cB1 S j 0)) (G := fun i M2 => zGo Γ 8 Q 2 [some (zo 0 0 0), some (zo 7 ts 0), some (zi (iz (i : Int)))] [] M2) (n := (S 1).toNat) ?_ ?_ (S 1).toNat 0 M (by omega) ⟨Off.rf M, fun j hj => by omega⟩
  · rintro M2 ⟨o2, p2⟩
    have C2 := hC.off o2 (by unfold oPk; intro f i; omega)
    refine bk_8_2 ⟨fun _ => h M2 o2 p2, fun q => ?_⟩
    rw [C2.1 1 (by omega), iz_le (by omega) (by omega) (by omega) (by omega)] at q
    omega
  · rintro i M2 hi ⟨o2, p2⟩ ih
    have C2 := hC.off o2 (by unfold oPk; intro f i; omega)
    refine bk_8_2 ⟨fun q => ?_, fun _ => c_pick (k := 0) hS C2 hi (by omega) (fun M3 o3 h2 h3 h4 => ⟨rfl, ?_⟩)⟩
    · rw [C2.1 1 (by omega), iz_le (by omega) (by omega) (by omega) (by omega)] at q
      omega
    · rw [iz_s]
      refine ih M3 ⟨o2.tr o3, fun j hj => ?_⟩
      by_cases e : j = i
      · rw [e]
        exact ⟨h2, h3⟩
      · rw [(h4 j e).1, (h4 j e).2]
        exact p2 j (by omega)
theorem c_nextSorts {e : Int} {ρ : Nat} (hS : SOK S) (hC : cS M ts S) (he : -1 ≤ e ∧ e < 100) (hp : pS M S (dL (Bs S e) (S 1).toNat ρ)) (hρ : ρ < nB (Bs S e) (S 1).toNat)
    (h : ∀ (M' : zM) (x : Int), Off oPk M M' → (ρ + 1 < nB (Bs S e) (S 1).toNat → x = 1 ∧ pS M' S (dL (Bs S e) (S 1).toNat (ρ + 1))) → (nB (Bs S e) (S 1).toNat ≤ ρ + 1 → x = 0) → Q (some (zi (iz x))) M') : zEv Γ 10 [zo 0 0 0, zo 7 ts 0, zi (iz e)] M Q := by
  have h7 := hS.2.1
  have hB := Bs_pos (S := S) (e := e)
  have e1 : M.1 7 ts 0 1 - 1 = iz (((S 1).toNat : Int) - 1) := by
    rw [hC.1 1 (by omega), iz1, iz_sub]
    exact congrArg iz (by omega)
  refine en_10 (bk_10_0 ?_)
  rw [e1]
  have main : ∀ (m a : Nat) (M2 : zM) (Q2 : Nat → zM → Prop), m ≤ (S 1).toNat → Off oPk M M2 → pS M2 S (dL (Bs S e) m a) → a < nB (Bs S e) m → (∀ (M' : zM) (x : Int), Off oPk M M' → (a + 1 < nB (Bs S e) m → x = 1 ∧ pS M' S (dL (Bs S e) m (a + 1))) → (nB (Bs S e) m ≤ a + 1 → x = 0) → Q (some (zi (iz x))) M') → zGo Γ 10 Q 7 [some (zo 0 0 0), some (zo 7 ts 0), some (zi (iz e)), some (zi (iz ((m : Int) - 1)))] [] M2 := by
    intro m
    induction m with
    | zero =>
      intro a M2 _ _ o2 p2 ha hq
      have ha : a < 1 := ha
      refine bk_10_7 ⟨fun _ => ⟨Or.inl rfl, hq M2 0 o2 (fun z => ?_) (fun _ => rfl)⟩, fun q => ?_⟩
      · have z : a + 1 < 1 := z
        omega
      · rw [iz0, iz_lt (by omega) (by omega) (by omega) (by omega)] at q
        omega
    | succ m ih =>
      intro a M2 Q2 hm o2 p2 ha hq
      have C2 := hC.off o2 (by unfold oPk; intro f i; omega)
      have h11 := (hS.2.2.2.2.2.2.2.2.2.2.1 m (by omega)).1
      have v7 := iz_inN (i := m) (n := 7) (by omega) (by omega)
      have em : iz (((m + 1 : Nat) : Int) - 1) = iz (m : Int) := congrArg iz (by omega)
      have hdl : a / Bs S e m < nB (Bs S e) m := by
        rw [nB] at ha
        exact Nat.div_lt_of_lt_mul (by rw [Nat.mul_comm]; exact ha)
      have hd := Nat.mod_lt a (hB m)
      have hda := Nat.div_add_mod a (Bs S e m)
      have hpm : M2.1 0 0 2 m = iz ((a % Bs S e m : Nat) : Int) := by
        have := (p2 m (by omega)).1
        rw [dL, upN_eq] at this
        exact this
      have h3 := Bs_le hS (e := e) (i := m) (by omega)
      -- carry: the digit is cleared, the rest goes on
      have carry : a % Bs S e m + 1 = Bs S e m → ∀ M3 : zM, Off oPk M M3 → pS M3 S (dL (Bs S e) m (a / Bs S e m)) → zGo Γ 10 Q 7 [some (zo 0 0 0), some (zo 7 ts 0), some (zi (iz e)), some (zi (iz (m : Int) + (-1)))] [] M3 := by
        intro hc M3 o3 p3
        rw [iz_m1, iz_add]
        have ea : a + 1 = (a / Bs S e m + 1) * Bs S e m := by
          rw [Nat.add_mul, Nat.one_mul, Nat.mul_comm]
          omega
        have q1 : (a + 1) / Bs S e m = a / Bs S e m + 1 := by rw [ea, Nat.mul_div_cancel _ (hB m)]
        have q2 : (a + 1) % Bs S e m = 0 := by rw [ea, Nat.mul_mod_left]
        refine ih (a / Bs S e m) M3 Q2 (by omega) o3 p3 hdl (fun M' x o' k1 k2 => hq M' x o' (fun z => ?_) (fun z => ?_))
        · rw [nB, ea] at z
          obtain ⟨x1, pp⟩ := k1 (Nat.lt_of_mul_lt_mul_right z)
          refine ⟨x1, ?_⟩
          have e2 : dL (Bs S e) (m + 1) (a + 1) = dL (Bs S e) m (a / Bs S e m + 1) := by
            rw [dL, q1, q2]
            funext i
            unfold upN
            by_cases hi : i = m
            · rw [if_pos hi, dL_out _ _ _ (by omega)]
            · rw [if_neg hi]
          rw [e2]
          exact pp
        · rw [nB, ea] at z
          exact k2 (Nat.le_of_mul_le_mul_right z (hB m))
      rw [em]
      refine bk_10_7 ⟨fun q => ?_, fun _ => ⟨fun q => ⟨v7, v7, ?_⟩, fun q => ?_⟩⟩
      · rw [iz0, iz_lt (by omega) (by omega) (by omega) (by omega)] at q
        omega
      · rw [iz_eq (by omega) (by omega) (by omega) (by omega)] at q
        have eB : Bs S e m = max 1 (S (80 + m)).toNat := by unfold Bs; rw [if_neg q]
        rw [iz_clN (by omega), C2.2.2.2.2.2.2.2.1 m (by omega), hpm, iz_s, iz_le (by omega) (by omega) (by omega) (by omega)]
        refine ⟨fun q2 => c_pick (k := 0) hS C2 (by omega) (by omega) (fun M3 o3 g2 g3 g4 => ⟨rfl, ?_⟩), fun q2 => ⟨v7, c_pick (k := a % Bs S e m + 1) hS C2 (by omega) (by omega) (fun M3 o3 g2 g3 g4 => ⟨rfl, Or.inr rfl, ?_⟩)⟩⟩
        · refine carry (by omega) M3 (o2.tr o3) ?_
          have := pS_up p2 g2 g3 g4
          rw [dL_cl] at this
          exact this
        · have q1 : (a + 1) / Bs S e m = a / Bs S e m := by
            rw [show a + 1 = (a % Bs S e m + 1) + Bs S e m * (a / Bs S e m) by omega, Nat.add_mul_div_left _ _ (hB m), Nat.div_eq_of_lt (by omega), Nat.zero_add]
          have q3 : (a + 1) % Bs S e m = a % Bs S e m + 1 := by
            rw [show a + 1 = (a % Bs S e m + 1) + Bs S e m * (a / Bs S e m) by omega, Nat.add_mul_mod_self_left, Nat.mod_eq_of_lt (by omega)]
          refine hq M3 1 (o2.tr o3) (fun _ => ⟨rfl, ?_⟩) (fun z => ?_)
          · have := pS_up p2 g2 g3 g4
            have e2 : dL (Bs S e) (m + 1) (a + 1) = upN (dL (Bs S e) (m + 1) a) m (a % Bs S e m + 1) := by
              rw [dL, dL, q1, q3]
              funext i
              unfold upN
              by_cases hi : i = m
              · rw [if_pos hi, if_pos hi]
              · rw [if_neg hi, if_neg hi, if_neg hi]
            rw [e2]
            exact this
          · exfalso
            have h1 : (a + 1) / Bs S e m < nB (Bs S e) m := by omega
            have h2 : a + 1 < nB (Bs S e) m * Bs S e m := (Nat.div_lt_iff_lt_mul (hB m)).mp h1
            rw [nB] at z
            omega
      · rw [iz_eq (by omega) (by omega) (by omega) (by omega)] at q
        have eB : Bs S e m = 1 := by unfold Bs; rw [if_pos q]
        have e0 : a % Bs S e m = 0 := by rw [eB, Nat.mod_one]
        refine carry (by omega) M2 o2 ?_
        have e2 : dL (Bs S e) (m + 1) a = dL (Bs S e) m (a / Bs S e m) := by
          rw [← dL_cl, dL, e0]
          funext i
          unfold upN
          by_cases hi : i = m
          · rw [if_pos hi, if_pos hi]
          · rw [if_neg hi, if_neg hi]
        rw [← e2]
        exact p2
  exact main (S 1).toNat ρ M (fun _ _ => True) (by omega) (Off.rf M) hp hρ h
theorem c_partsOfRow {e : Int} (hS : SOK S) (hC : cS M ts S) (he : -1 ≤ e ∧ e < 100) (hp : pS M S p) (h3 : ∀ i, i < 7 → p i < 3) (h : Q (some (zl (lz (chW S e p)))) M) : zEv Γ 11 [zo 0 0 0, zo 7 ts 0, zi (iz e)] M Q := by
  have h7 := hS.2.1
  refine en_11 (bk_11_0 ?_)
  refine nloop (G := fun i => zGo Γ 11 Q 5 [some (zo 0 0 0), some (zo 7 ts 0), some (zi (iz e)), some (zl (lz (prodTo (chF S e p) i))), none, some (zi (iz (i : Int)))] [] M) (n := (S 1).toNat) ?_ (fun i hi ih => ?_) (S 1).toNat 0 (by omega)
  · refine bk_11_5 ⟨fun _ => h, fun q => ?_⟩
    rw [hC.1 1 (by omega), iz_le (by omega) (by omega) (by omega) (by omega)] at q
    omega
  · have h11 := (hS.2.2.2.2.2.2.2.2.2.2.1 i (by omega)).1
    have hp3 := h3 i (by omega)
    have v7 := iz_inN (i := i) (n := 7) (by omega) (by omega)
    rw [prodTo] at ih
    unfold chF at ih
    refine bk_11_5 ⟨fun q => ?_, fun _ => ?_⟩
    · rw [hC.1 1 (by omega), iz_le (by omega) (by omega) (by omega) (by omega)] at q
      omega
    rw [iz_clN (by omega), hC.2.2.2.2.2.2.2.1 i (by omega), (hp i hi).1, iz_eq (by omega) (by omega) (by omega) (by omega), iz_le (by omega) (by omega) (by omega) (by omega), iz_s, show (3 : Int32) = iz 3 from rfl, iz_mul, iz_add, show (i : Int) * 3 + ((p i : Nat) : Int) = ((3 * i + p i : Nat) : Int) by omega, iz_clN (show 3 * i + p i < 2147483648 by omega)]
    have hb := (hS.2.2.2.2.2.2.2.2.2.2.2.1 (3 * i + p i) (by omega)).2
    refine ⟨fun q => ?_, fun q => ⟨v7, v7, fun q2 => ?_, fun q2 => ⟨v7, iz_inN (by omega) (by omega), ?_⟩⟩⟩
    · rw [if_pos (Or.inl q), Int.mul_one] at ih
      exact ih
    · rw [if_pos (Or.inr q2), Int.mul_one] at ih
      exact ih
    · rw [if_neg (by omega)] at ih
      rw [hC.2.2.2.2.2.2.2.2.2.1 (3 * i + p i) (by omega) (by rw [show (3 * i + p i) % 3 = p i by omega, show (3 * i + p i) / 3 = i by omega]; omega), iz_lz (by omega) (by omega), lz_mul]
      exact ih
end Z65
