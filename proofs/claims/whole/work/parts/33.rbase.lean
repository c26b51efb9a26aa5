/-- the first of j, j+1 .. (d of them) with p -/
def fnd (p : Nat → Bool) : Nat → Nat → Option Nat
  | _, 0 => none
  | j, d + 1 => if p j = true then some j else fnd p (j + 1) d
def sumTo (f : Nat → Int) : Nat → Int
  | 0 => 0
  | n + 1 => sumTo f n + f n
def plc (l : List Nat) (nb i : Nat) : Option Nat := fnd (fun j => l.getD j 0 == i) 0 (min l.length nb)
def opI (o : Option Nat) : Int := match o with
  | some j => (j : Int)
  | none => -1
theorem fnd_lt {p : Nat → Bool} : ∀ (d j k : Nat), fnd p j d = some k → j ≤ k ∧ k < j + d ∧ p k = true
  | 0, j, k, h => by cases h
  | d + 1, j, k, h => by
    simp only [fnd] at h
    split at h
    · next hp => cases h; exact ⟨Nat.le_refl _, by omega, hp⟩
    · obtain ⟨a, b, c⟩ := fnd_lt d (j + 1) k h
      exact ⟨by omega, by omega, c⟩
theorem plc_lt {l : List Nat} {nb i j : Nat} (h : plc l nb i = some j) : j < l.length ∧ j < nb ∧ l.getD j 0 = i := by
  obtain ⟨a, b, c⟩ := fnd_lt _ _ _ h
  exact ⟨by omega, by omega, by simpa using c⟩
/-- the worth of board j to bidder i, if the value is v -/
def wor (S : SB) (v : Int) (i j : Nat) : Int := max 0 (v * S (4 + j) + S (38 + (6 * i + j)))
theorem wor_b {S : SB} (hS : SOK S) {v : Int} (hv : 0 ≤ v ∧ v ≤ 99) {i j : Nat} (hi : i < 7) (hj : j < 6) : 0 ≤ wor S v i j ∧ wor S v i j ≤ 10800 := by
  unfold wor
  have h1 := hS.2.2.2.2.1 j hj
  have h2 := hS.2.2.2.2.2.2.2.2.2.1 (6 * i + j) (by omega)
  have h3 : v * S (4 + j) ≤ 99 * 99 := Int.mul_le_mul hv.2 h1.2 h1.1 (by omega)
  omega
def valO (S : SB) (tl tg : Int) (i : Nat) : Int := if (i : Int) = tl then tg else S (10 + i)
/-- the reference's sales: so many, each with its block -/
def rW (M : zM) (cnt : Nat) (SS : Nat → SB) : Prop := M.1 10 0 1 0 = iz (cnt : Int) ∧ cnt ≤ 3 ∧ ∀ s, s < cnt → rH M (510 + 260 * s) (SS s) ∧ SOK (SS s)
def rSl (c t f i : Nat) : Prop := c = 10 ∧ t = 0 ∧ f = 0 ∧ (i = 12 ∨ i = 13 ∨ i = 14)
def rTk (c t f i : Nat) : Prop := c = 10 ∧ t = 0 ∧ (f = 16 ∨ f = 17 ∨ f = 18)
/-- all that the reference may write but its tape and sales, its images and its teller -/
def rSc (c t f i : Nat) : Prop := c = 10 ∧ t = 0 ∧ f ≠ 1 ∧ f ≠ 2 ∧ (f = 0 → i ≠ 21)
theorem rTk_n {f i : Nat} (h : f ≠ 16) (h' : f ≠ 17) (h2 : f ≠ 18) : ¬ rTk 10 0 f i := by
  rintro ⟨-, -, q⟩
  omega
theorem rLy_sc {c t f i : Nat} (h : rLy c t f i) : rSc c t f i := by
  obtain ⟨a, b, c⟩ := h
  exact ⟨a, b, by omega, by omega, by omega⟩
theorem rSl_sc {c t f i : Nat} (h : rSl c t f i) : rSc c t f i := by
  obtain ⟨a, b, c, d⟩ := h
  exact ⟨a, b, by omega, by omega, by omega⟩
theorem rTk_sc {c t f i : Nat} (h : rTk c t f i) : rSc c t f i := by
  obtain ⟨a, b, c⟩ := h
  exact ⟨a, b, by omega, by omega, by omega⟩
theorem rW.off {P : Nat → Nat → Nat → Nat → Prop} {M M' : zM} {cnt : Nat} {SS : Nat → SB} (h : rW M cnt SS) (ho : Off P M M') (hP : ∀ i, ¬ P 10 0 1 i) : rW M' cnt SS :=
  ⟨(ho.1 _ _ _ _ (hP _)).trans h.1, h.2.1, fun s hs => ⟨fun k hk => (ho.1 _ _ _ _ (hP _)).trans ((h.2.2 s hs).1 k hk), (h.2.2 s hs).2⟩⟩
section Z33
variable {Γ : zC} {Q : zQ} {M : zM} {b : Nat} {S : SB} {n nb cnt : Nat} {SS : Nat → SB} {bd mk : Nat → Int} {ex : Nat → Bool} {l : List Nat} {bar : Int}
theorem r_isSale {x : Int32} (hW : rW M cnt SS) (hf : (x.toInt < 0 ∨ (cnt : Int) ≤ x.toInt) → Q (some (zi 0)) M) (ht : ∀ (s : Nat) (M' : zM), s < cnt → x = iz (s : Int) → Off rSl M M' → rB M' (510 + 260 * s) (SS s) → Q (some (zi 1)) M') : zEv Γ 178 [zo 10 0 0, zi x] M Q := by
  have hW3 := hW.2.1
  obtain ⟨a, ha1, ha2, rfl⟩ := iz_ex x
  rw [iz_toInt ha1 ha2] at hf
  refine en_178 (bk_178_0 ?_)
  rw [show (0 : Int32).toNatClampNeg = 0 from rfl, hW.1, iz0, iz1, iz_sub]
  refine ⟨by rw [iz_in (by omega) (by omega)]; omega, r_isIn (by omega) (by omega) (by omega) (fun q1 q2 => ⟨_, rfl, fun _ => ?_, fun q => ?_⟩) (fun q => ⟨_, rfl, fun q' => ?_, fun _ => ⟨Or.inl rfl, hf (by omega)⟩⟩)⟩
  · obtain ⟨s, rfl⟩ := Int.eq_ofNat_of_zero_le q1
    have hs : s < cnt := by omega
    obtain ⟨hH, hOK⟩ := hW.2.2 s hs
    have eb : (510 : Int32) + 260 * iz (s : Int) = iz ((510 + 260 * s : Nat) : Int) := by
      rw [iz_nat, iz_nat, iz_mul, iz_add]
      congr 1
    rw [eb]
    have go : ∀ {k : Nat} {M1 : zM} {Q1 : zQ}, k < 240 → Off rSl M M1 → M1.1 10 0 0 12 = iz ((510 + 260 * s : Nat) : Int) → Q1 (some (zi (iz (SS s k)))) M1 → zEv Γ 177 [zo 10 0 0, zi (iz (k : Int))] M1 Q1 := by
      intro k M1 Q1 hk ho hb hq
      refine en_177 (bk_177_0 ?_)
      rw [hb, iz_add, show ((510 + 260 * s : Nat) : Int) + (k : Int) = ((510 + 260 * s + k : Nat) : Int) by omega, iz_clN (by omega)]
      rw [ho.1 _ _ _ _ (by rintro ⟨-, -, q, -⟩; omega), hH k hk]
      exact ⟨iz_inN (by omega) (by omega), hq⟩
    have o1 : Off rSl M (zw M 10 0 0 12 (iz ((510 + 260 * s : Nat) : Int))) := (Off.rf M).w _ ⟨rfl, rfl, rfl, Or.inl rfl⟩
    refine go (k := 0) (by omega) o1 rfl ⟨_, rfl, ?_⟩
    have o2 := o1.w (iz (SS s 0)) (c := 10) (t := 0) (f := 0) (i := 13) ⟨rfl, rfl, rfl, Or.inr (Or.inl rfl)⟩
    refine go (k := 1) (by omega) o2 rfl ⟨_, rfl, Or.inr rfl, ?_⟩
    have o3 := o2.w (iz (SS s 1)) (c := 10) (t := 0) (f := 0) (i := 14) ⟨rfl, rfl, rfl, Or.inr (Or.inr rfl)⟩
    exact ht s _ hs rfl o3 ⟨rfl, rfl, rfl, fun k hk => (o3.1 _ _ _ _ (by rintro ⟨-, -, q, -⟩; omega)).trans (hH k hk), by omega⟩
  · exact absurd q (by decide)
  · exact absurd rfl q'
theorem r_takes (hS : SOK S) (hn : S 1 = (n : Int)) (hB : rB M b S) (h : ∀ M', Off rTk M M' → rBd M' n (fun i => S (17 + i)) (fun i => S (24 + i)) (fun _ => false) → Q none M') : zEv Γ 179 [zo 10 0 0] M Q := by
  have h7 := hS.2.1
  have nt : ∀ {f i : Nat}, f ≠ 16 → f ≠ 17 → f ≠ 18 → ¬ rTk 10 0 f i := by
    rintro f i a b c ⟨-, -, q⟩
    omega
  have loop : ∀ (d i : Nat) (M1 : zM), i + d = n → Off rTk M M1 → rBd M1 i (fun i => S (17 + i)) (fun i => S (24 + i)) (fun _ => false) → zGo Γ 179 Q 2 [some (zo 10 0 0), some (zi (iz (i : Int)))] [] M1 := by
    intro d
    induction d with
    | zero =>
      intro i M1 hi ho hb
      have : i = n := by omega
      subst this
      have hB1 := hB.off ho (fun i => nt (by omega) (by omega) (by omega)) (nt (by omega) (by omega) (by omega)) (nt (by omega) (by omega) (by omega)) (nt (by omega) (by omega) (by omega))
      refine bk_179_2 ⟨fun _ => h M1 ho hb, fun q => ?_⟩
      exfalso
      rw [hB1.2.2.1, iz_le (by omega) (by omega) (by omega) (by omega)] at q
      omega
    | succ d ih =>
      intro i M1 hi ho hb
      have hB1 := hB.off ho (fun i => nt (by omega) (by omega) (by omega)) (nt (by omega) (by omega) (by omega)) (nt (by omega) (by omega) (by omega)) (nt (by omega) (by omega) (by omega))
      have i8 := iz_inN (i := i) (n := 8) (by omega) (by omega)
      refine bk_179_2 ⟨fun q => ?_, fun _ => ?_⟩
      · exfalso
        rw [hB1.2.2.1, iz_le (by omega) (by omega) (by omega) (by omega)] at q
        omega
      · refine r_of hB1 (17 + i) (by omega) (by rw [iz_nat, iz_add]; congr 1) ⟨_, rfl, i8, ?_⟩
        rw [iz_clN (by omega)]
        have o1 : Off rTk M (zw M1 10 0 16 i (iz (S (17 + i)))) := ho.w _ ⟨rfl, rfl, Or.inl rfl⟩
        have hB2 := hB.off o1 (fun i => nt (by omega) (by omega) (by omega)) (nt (by omega) (by omega) (by omega)) (nt (by omega) (by omega) (by omega)) (nt (by omega) (by omega) (by omega))
        refine r_of hB2 (24 + i) (by omega) (by rw [iz_nat, iz_add]; congr 1) ⟨_, rfl, i8, i8, ?_⟩
        rw [iz_s]
        refine ih (i + 1) _ (by omega) ((o1.w _ ⟨rfl, rfl, Or.inr (Or.inl rfl)⟩).w _ ⟨rfl, rfl, Or.inr (Or.inr rfl)⟩) (fun k hk => ?_)
        simp only [zw_get]
        by_cases hki : k = i
        · subst hki
          simp
          rfl
        · have hk2 := hb k (by omega)
          simpa [hki] using hk2
  exact en_179 (bk_179_0 (loop n 0 M (by omega) (Off.rf M) (fun k hk => by omega)))
theorem r_takesSale {x : Int32} (hW : rW M cnt SS) (hf : (x.toInt < 0 ∨ (cnt : Int) ≤ x.toInt) → Q (some (zi 0)) M) (ht : ∀ (s n : Nat) (M' : zM), s < cnt → x = iz (s : Int) → SS s 1 = (n : Int) → Off rSc M M' → rB M' (510 + 260 * s) (SS s) → rBd M' n (fun i => SS s (17 + i)) (fun i => SS s (24 + i)) (fun _ => false) → Q (some (zi 1)) M') : zEv Γ 180 [zo 10 0 0, zi x] M Q := by
  refine en_180 (bk_180_0 (r_isSale hW (fun q => ⟨_, rfl, fun q' => absurd rfl q', fun _ => ⟨Or.inl rfl, hf q⟩⟩) (fun s M' hs hx ho hB => ⟨_, rfl, fun _ => ?_, fun q => absurd q (by decide)⟩)))
  have hOK := (hW.2.2 s hs).2
  have h7 := hOK.2.1
  refine r_takes hOK (n := (SS s 1).toNat) (by omega) hB (fun M2 ho2 hb2 => ⟨rfl, Or.inr rfl, ?_⟩)
  refine ht s _ M2 hs hx (by omega) ((ho.wk fun _ _ _ _ => rSl_sc).tr (ho2.wk fun _ _ _ _ => rTk_sc)) (hB.off ho2 (fun i => rTk_n (by omega) (by omega) (by omega)) (rTk_n (by omega) (by omega) (by omega)) (rTk_n (by omega) (by omega) (by omega)) (rTk_n (by omega) (by omega) (by omega))) hb2
theorem r_laid {x : Int32} (hW : rW M cnt SS) (hf : (x.toInt < 0 ∨ (cnt : Int) ≤ x.toInt) → Q (some (zi 0)) M) (ht : ∀ (s n nb : Nat) (M' : zM), s < cnt → x = iz (s : Int) → SS s 1 = (n : Int) → SS s 0 = (nb : Int) → Off rSc M M' → rB M' (510 + 260 * s) (SS s) → rBd M' n (fun i => SS s (17 + i)) (fun i => SS s (24 + i)) (fun _ => false) → rOr M' (lin (fun i => SS s (17 + i)) (fun i => SS s (24 + i)) (fun _ => false) (SS s 3) n) → (∀ j, j < nb → M'.1 10 0 21 j = iz (if j < (lin (fun i => SS s (17 + i)) (fun i => SS s (24 + i)) (fun _ => false) (SS s 3) n).length then payS (SS s) (fun i => SS s (17 + i)) (fun i => SS s (24 + i)) (SS s 3) (lin (fun i => SS s (17 + i)) (fun i => SS s (24 + i)) (fun _ => false) (SS s 3) n) j else 0)) → Q (some (zi 1)) M') : zEv Γ 193 [zo 10 0 0, zi x] M Q := by
  refine en_193 (bk_193_0 (r_takesSale hW (fun q => ⟨_, rfl, fun q' => absurd rfl q', fun _ => ⟨Or.inl rfl, hf q⟩⟩) (fun s n M' hs hx hn ho hB hb => ⟨_, rfl, fun _ => ?_, fun q => absurd q (by decide)⟩)))
  have hOK := (hW.2.2 s hs).2
  have h7 := hOK.2.1
  have h6 := hOK.1
  refine r_of hB 3 (by omega) rfl ⟨_, rfl, ?_⟩
  rw [hB.2.2.1, hn]
  refine r_lays hOK (nb := (SS s 0).toNat) (by omega) hB (by omega) (fun i hi => ⟨hOK.2.2.2.2.2.2.1 i (by omega), hOK.2.2.2.2.2.2.2.1 i (by omega)⟩) hb hOK.2.2.2.1 (fun M2 ho2 hor hp => ⟨rfl, Or.inr rfl, ?_⟩)
  refine ht s n _ M2 hs hx hn (by omega) (ho.tr (ho2.wk fun _ _ _ _ => rLy_sc)) (hB.off ho2 (fun i => rLy_n (by omega) (by omega) (by omega)) (rLy_n (by omega) (by omega) (by omega)) (rLy_n (by omega) (by omega) (by omega)) (rLy_n (by omega) (by omega) (by omega))) (hb.off ho2 (fun i => rLy_n (by omega) (by omega) (by omega)) (fun i => rLy_n (by omega) (by omega) (by omega)) (fun i => rLy_n (by omega) (by omega) (by omega))) hor hp
theorem r_placeOf (hS : SOK S) (hnb : S 0 = (nb : Int)) (hB : rB M b S) (ho : rOr M l) (hl : ∀ x ∈ l, x < 8) (hlen : l.length ≤ 8) {i : Nat} (hi : i < 100) (h : Q (some (zi (iz (opI (plc l nb i))))) M) : zEv Γ 189 [zo 10 0 0, zi (iz (i : Int))] M Q := by
  have h6 := hS.1
  have loop : ∀ (d j : Nat), j + d = min l.length nb → fnd (fun j => l.getD j 0 == i) j d = plc l nb i → zGo Γ 189 Q 2 [some (zo 10 0 0), some (zi (iz (i : Int))), some (zi (iz (j : Int)))] [] M := by
    intro d
    induction d with
    | zero =>
      intro j hj he
      simp only [fnd] at he
      rw [← he] at h
      refine bk_189_2 ?_
      rw [ho.1, hB.2.1, iz_le (by omega) (by omega) (by omega) (by omega), iz_le (by omega) (by omega) (by omega) (by omega)]
      exact ⟨fun _ => h, fun q1 => ⟨fun _ => h, fun q2 => by omega⟩⟩
    | succ d ih =>
      intro j hj he
      refine bk_189_2 ?_
      have hx := hl _ (getD_mem (show j < l.length by omega))
      rw [ho.1, hB.2.1, iz_le (by omega) (by omega) (by omega) (by omega), iz_le (by omega) (by omega) (by omega) (by omega), iz_clN (by omega), ho.2 j (by omega), iz_eq (by omega) (by omega) (by omega) (by omega)]
      refine ⟨fun q => by omega, fun _ => ⟨fun q => by omega, fun _ => ⟨iz_inN (by omega) (by omega), fun q => ?_, fun q => ?_⟩⟩⟩
      · rw [iz_s]
        refine ih (j + 1) (by omega) ?_
        rw [← he]
        conv => rhs; rw [fnd]
        rw [if_neg (by intro z; have z : l.getD j 0 = i := eq_of_beq z; omega)]
      · rw [fnd, if_pos (beq_iff_eq.mpr (show l.getD j 0 = i by omega))] at he
        rw [← he] at h
        exact h
  exact en_189 (bk_189_0 (loop (min l.length nb) 0 (by omega) rfl))
theorem r_worthBy (hS : SOK S) (hB : rB M b S) {v : Int} (hv : 0 ≤ v ∧ v ≤ 99) {i j : Nat} (hi : i < 7) (hj : j < 6) (h : Q (some (zi (iz (wor S v i j)))) M) : zEv Γ 190 [zo 10 0 0, zi (iz v), zi (iz (i : Int)), zi (iz (j : Int))] M Q := by
  have h1 := hS.2.2.2.2.1 j hj
  have h2 := hS.2.2.2.2.2.2.2.2.2.1 (6 * i + j) (by omega)
  have h3 : v * S (4 + j) ≤ 99 * 99 := Int.mul_le_mul hv.2 h1.2 h1.1 (by omega)
  have h4 : 0 ≤ v * S (4 + j) := Int.mul_nonneg hv.1 h1.1
  unfold wor at h
  refine en_190 (bk_190_0 (r_of hB (4 + j) (by omega) (by rw [iz_nat, iz_add]; congr 1) ⟨_, rfl, r_of hB (38 + (6 * i + j)) (by omega) (by rw [iz_nat, iz_nat, iz_mul, iz_add, iz_add]; congr 1; omega) ⟨_, rfl, ?_⟩⟩))
  rw [iz_mul, iz_add, iz0, iz_le (by omega) (by omega) (by omega) (by omega)]
  constructor
  · intro q
    rw [show max 0 (v * S (4 + j) + S (38 + (6 * i + j))) = v * S (4 + j) + S (38 + (6 * i + j)) by omega] at h
    exact h
  · intro q
    rw [show max 0 (v * S (4 + j) + S (38 + (6 * i + j))) = 0 by omega] at h
    exact h
theorem r_worthOf (hS : SOK S) (hB : rB M b S) {tl tg : Int} (htl : M.1 10 0 0 21 = iz tl) (htl2 : -1 ≤ tl ∧ tl < 100) (htg : M.1 10 0 0 22 = iz tg ∧ 0 ≤ tg ∧ tg ≤ 99 ∨ tl = -1) {i j : Nat} (hi : i < 7) (hj : j < 6) (h : Q (some (zi (iz (wor S (valO S tl tg i) i j)))) M) : zEv Γ 191 [zo 10 0 0, zi (iz (i : Int)), zi (iz (j : Int))] M Q := by
  have h1 := hS.2.2.2.2.2.1 i hi
  unfold valO at h
  refine en_191 (bk_191_0 ?_)
  rw [htl, iz_eq (by omega) (by omega) (by omega) (by omega)]
  constructor
  · intro q
    rw [if_neg q] at h
    exact r_of hB (10 + i) (by omega) (by rw [iz_nat, iz_add]; congr 1) ⟨_, rfl, r_worthBy hS hB h1 hi hj ⟨_, rfl, h⟩⟩
  · intro q
    rw [if_pos q] at h
    rcases htg with ⟨e1, e2, e3⟩ | e
    · rw [e1]
      exact r_worthBy hS hB ⟨e2, e3⟩ hi hj ⟨_, rfl, h⟩
    · omega
end Z33
