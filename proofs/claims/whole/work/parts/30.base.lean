/-! ints by their values -/
def iz (a : Int) : Int32 := Int32.ofInt a
def lz (a : Int) : Int64 := Int64.ofInt a
theorem iz_toInt {a : Int} (h1 : -2147483648 ≤ a) (h2 : a < 2147483648) : (iz a).toInt = a := Int32.toInt_ofInt_of_le (by omega) (by omega)
theorem iz_of (x : Int32) : iz x.toInt = x := Int32.ofInt_toInt x
theorem iz_ex (x : Int32) : ∃ a : Int, -2147483648 ≤ a ∧ a < 2147483648 ∧ x = iz a := ⟨x.toInt, by have := Int32.le_toInt x; omega, by have := Int32.toInt_lt x; omega, (iz_of x).symm⟩
theorem iz_add (a b : Int) : iz a + iz b = iz (a + b) := (Int32.ofInt_add a b).symm
theorem iz_sub (a b : Int) : iz a - iz b = iz (a - b) := (Int32.ofInt_sub a b).symm
theorem iz_mul (a b : Int) : iz a * iz b = iz (a * b) := (Int32.ofInt_mul a b).symm
theorem iz_neg (a : Int) : -iz a = iz (-a) := (Int32.ofInt_neg a).symm
theorem iz_nat (n : Nat) : (OfNat.ofNat n : Int32) = iz (OfNat.ofNat n : Int) := by
  show Int32.ofNat n = Int32.ofInt (n : Int)
  exact (Int32.ofInt_eq_ofNat).symm
theorem iz_m1 : (-1 : Int32) = iz (-1) := rfl
theorem iz_le {a b : Int} (h1 : -2147483648 ≤ a) (h2 : a < 2147483648) (h3 : -2147483648 ≤ b) (h4 : b < 2147483648) : (iz a ≤ iz b) = (a ≤ b) := by
  rw [Int32.le_iff_toInt_le, iz_toInt h1 h2, iz_toInt h3 h4]
theorem iz_lt {a b : Int} (h1 : -2147483648 ≤ a) (h2 : a < 2147483648) (h3 : -2147483648 ≤ b) (h4 : b < 2147483648) : (iz a < iz b) = (a < b) := by
  rw [Int32.lt_iff_toInt_lt, iz_toInt h1 h2, iz_toInt h3 h4]
theorem iz_eq {a b : Int} (h1 : -2147483648 ≤ a) (h2 : a < 2147483648) (h3 : -2147483648 ≤ b) (h4 : b < 2147483648) : (iz a = iz b) = (a = b) := by
  rw [← Int32.toInt_inj, iz_toInt h1 h2, iz_toInt h3 h4]
theorem iz_in {a : Int} {n : Nat} (h1 : -2147483648 ≤ a) (h2 : a < 2147483648) : vp_in (iz a) n = (0 ≤ a ∧ a < n) := by
  rw [vp_in_iff, iz_toInt h1 h2]
theorem iz_cl {a : Int} (h1 : -2147483648 ≤ a) (h2 : a < 2147483648) : (iz a).toNatClampNeg = a.toNat := by
  show (iz a).toInt.toNat = _
  rw [iz_toInt h1 h2]
theorem iz_clN {n : Nat} (h : n < 2147483648) : (iz (n : Int)).toNatClampNeg = n := by
  rw [iz_cl (by omega) (by omega)]
  omega
theorem iz_inN {i n : Nat} (h : i < n) (hn : n < 2147483648) : vp_in (iz (i : Int)) n := by
  rw [iz_in (by omega) (by omega)]
  omega
theorem iz_div {a b : Int} (h1 : 0 ≤ a) (h2 : a < 2147483648) (h3 : 0 < b) (h4 : b < 2147483648) : iz a / iz b = iz (a / b) := by
  rw [← Int32.toInt_inj, Int32.toInt_div_of_ne_left]
  · rw [iz_toInt (by omega) h2, iz_toInt (by omega) h4, iz_toInt (by have := Int.ediv_nonneg h1 (Int.le_of_lt h3); omega) (by have := Int.ediv_le_self b h1; omega), Int.tdiv_eq_ediv_of_nonneg h1]
  · intro h
    have := congrArg Int32.toInt h
    rw [iz_toInt (by omega) h2] at this
    have e : Int32.minValue.toInt = -2147483648 := by decide
    omega
/-! memory -/
theorem zw_get (M : zM) (c t f i : Nat) (x : Int32) (c' t' f' i' : Nat) : (zw M c t f i x).1 c' t' f' i' = if c' = c ∧ t' = t ∧ f' = f ∧ i' = i then x else M.1 c' t' f' i' := rfl
theorem zw_get2 (M : zM) (c t f i : Nat) (x : Int32) : (zw M c t f i x).2 = M.2 := rfl
theorem zwl_get (M : zM) (c t f i : Nat) (x : Int64) (c' t' f' i' : Nat) : (zwl M c t f i x).2 c' t' f' i' = if c' = c ∧ t' = t ∧ f' = f ∧ i' = i then x else M.2 c' t' f' i' := rfl
theorem zwl_get1 (M : zM) (c t f i : Nat) (x : Int64) : (zwl M c t f i x).1 = M.1 := rfl
/-- M' differs from M at most at the places that P names -/
def Off (P : Nat → Nat → Nat → Nat → Prop) (M M' : zM) : Prop := (∀ c t f i, ¬ P c t f i → M'.1 c t f i = M.1 c t f i) ∧ ∀ c t f i, ¬ P c t f i → M'.2 c t f i = M.2 c t f i
theorem Off.rf {P : Nat → Nat → Nat → Nat → Prop} (M : zM) : Off P M M := ⟨fun _ _ _ _ _ => rfl, fun _ _ _ _ _ => rfl⟩
theorem Off.tr {P : Nat → Nat → Nat → Nat → Prop} {M M1 M2 : zM} (h1 : Off P M M1) (h2 : Off P M1 M2) : Off P M M2 := ⟨fun c t f i h => (h2.1 c t f i h).trans (h1.1 c t f i h), fun c t f i h => (h2.2 c t f i h).trans (h1.2 c t f i h)⟩
theorem Off.wk {P P' : Nat → Nat → Nat → Nat → Prop} {M M1 : zM} (h1 : Off P M M1) (h : ∀ c t f i, P c t f i → P' c t f i) : Off P' M M1 := ⟨fun c t f i q => h1.1 c t f i (fun z => q (h c t f i z)), fun c t f i q => h1.2 c t f i (fun z => q (h c t f i z))⟩
theorem Off.w {P : Nat → Nat → Nat → Nat → Prop} {M M1 : zM} (h1 : Off P M M1) {c t f i : Nat} (x : Int32) (h : P c t f i) : Off P M (zw M1 c t f i x) := ⟨fun c' t' f' i' q => by
  rw [zw_get, if_neg (fun z => q (by rw [z.1, z.2.1, z.2.2.1, z.2.2.2]; exact h))]
  exact h1.1 c' t' f' i' q, fun c' t' f' i' q => h1.2 c' t' f' i' q⟩
theorem Off.wl {P : Nat → Nat → Nat → Nat → Prop} {M M1 : zM} (h1 : Off P M M1) {c t f i : Nat} (x : Int64) (h : P c t f i) : Off P M (zwl M1 c t f i x) := ⟨fun c' t' f' i' q => h1.1 c' t' f' i' q, fun c' t' f' i' q => by
  rw [zwl_get, if_neg (fun z => q (by rw [z.1, z.2.1, z.2.2.1, z.2.2.2]; exact h))]
  exact h1.2 c' t' f' i' q⟩
/-! a sale's block S: 0 boards, 1 bidders, 2 way, 3 bar, 4 pass, 10 value, 17 bid, 24 mark, 31 purse, 38 extra (6 i + j), 80 sorts, 87 sort (6 i + 2 k, chance behind), 129 friend (7 a + b), 178 foe, 227 price -/
abbrev SB : Type := Nat → Int
def SOK (S : SB) : Prop := (1 ≤ S 0 ∧ S 0 ≤ 6) ∧ (1 ≤ S 1 ∧ S 1 ≤ 7) ∧ (0 ≤ S 2 ∧ S 2 ≤ 2) ∧ (0 ≤ S 3 ∧ S 3 ≤ 99) ∧ (∀ j, j < 6 → 0 ≤ S (4 + j) ∧ S (4 + j) ≤ 99) ∧ (∀ i, i < 7 → 0 ≤ S (10 + i) ∧ S (10 + i) ≤ 99) ∧ (∀ i, i < 7 → 0 ≤ S (17 + i) ∧ S (17 + i) ≤ 99) ∧ (∀ i, i < 7 → 1 ≤ S (24 + i) ∧ S (24 + i) ≤ 9) ∧ (∀ i, i < 7 → 0 ≤ S (31 + i) ∧ S (31 + i) ≤ 9999) ∧ (∀ i, i < 42 → -999 ≤ S (38 + i) ∧ S (38 + i) ≤ 999) ∧ (∀ i, i < 7 → (0 ≤ S (80 + i) ∧ S (80 + i) ≤ 3) ∧ ∀ k : Nat, (k : Int) < S (80 + i) → k < 3 → 1 ≤ S (88 + 2 * (3 * i + k))) ∧ (∀ i, i < 21 → (0 ≤ S (87 + 2 * i) ∧ S (87 + 2 * i) ≤ 99) ∧ 0 ≤ S (88 + 2 * i) ∧ S (88 + 2 * i) ≤ 9) ∧ (∀ i, i < 49 → -999 ≤ S (129 + i) ∧ S (129 + i) ≤ 999) ∧ (∀ i, i < 49 → 0 ≤ S (178 + i) ∧ S (178 + i) ≤ 1) ∧ (∀ j, j < 6 → 0 ≤ S (227 + j) ∧ S (227 + j) ≤ 9999) ∧ ∀ j, j < 5 → S (5 + j) ≤ S (4 + j) ∨ S 0 ≤ 1 + (j : Int)
/-- the reference's array holds S from b on -/
def rH (M : zM) (b : Nat) (S : SB) : Prop := ∀ k, k < 240 → M.1 10 0 1 (b + k) = iz (S k)
/-- the reference looks at the sale S from b on -/
def rB (M : zM) (b : Nat) (S : SB) : Prop := M.1 10 0 0 12 = iz b ∧ M.1 10 0 0 13 = iz (S 0) ∧ M.1 10 0 0 14 = iz (S 1) ∧ rH M b S ∧ b + 240 ≤ 5160
/-- object t of the class's sales holds S -/
def cS (M : zM) (t : Nat) (S : SB) : Prop := (∀ k, k < 4 → M.1 7 t 0 k = iz (S k)) ∧ (∀ j, j < 6 → M.1 7 t 5 j = iz (S (4 + j))) ∧ (∀ j, j < 6 → M.1 7 t 6 j = iz (S (227 + j))) ∧ (∀ i, i < 7 → M.1 7 t 7 i = iz (S (10 + i))) ∧ (∀ i, i < 7 → M.1 7 t 8 i = iz (S (17 + i))) ∧ (∀ i, i < 7 → M.1 7 t 9 i = iz (S (24 + i))) ∧ (∀ i, i < 7 → M.1 7 t 10 i = iz (S (31 + i))) ∧ (∀ i, i < 7 → M.1 7 t 11 i = iz (S (80 + i))) ∧ (∀ i, i < 21 → ((i % 3 : Nat) : Int) < S (80 + i / 3) → M.1 7 t 12 i = iz (S (87 + 2 * i))) ∧ (∀ i, i < 21 → ((i % 3 : Nat) : Int) < S (80 + i / 3) → M.1 7 t 13 i = iz (S (88 + 2 * i))) ∧ (∀ i, i < 42 → M.1 7 t 14 i = iz (S (38 + i))) ∧ (∀ i, i < 49 → M.1 7 t 15 i = iz (S (129 + i))) ∧ ∀ i, i < 49 → M.1 7 t 16 i = iz (S (178 + i))
section Z30
variable {Γ : zC} {Q : zQ} {M : zM}
/-- isIn(v, least, most) -/
theorem r_isIn {v lo hi : Int} (h1 : -2147483648 ≤ v ∧ v < 2147483648) (h2 : -2147483648 ≤ lo ∧ lo < 2147483648) (h3 : -2147483648 ≤ hi ∧ hi < 2147483648) (ht : lo ≤ v → v ≤ hi → Q (some (zi 1)) M) (hf : v < lo ∨ hi < v → Q (some (zi 0)) M) : zEv Γ 154 [zi (iz v), zi (iz lo), zi (iz hi)] M Q := by
  refine en_154 (bk_154_0 ?_)
  simp (disch := omega) only [iz_lt]
  exact ⟨fun h => ⟨Or.inl rfl, hf (Or.inl h)⟩, fun h => ⟨fun q => ⟨Or.inl rfl, hf (Or.inr q)⟩, fun q => ⟨Or.inr rfl, ht (by omega) (by omega)⟩⟩⟩
/-- of(what) -/
theorem r_of {b : Nat} {S : SB} {x : Int32} (hB : rB M b S) (k : Nat) (hk : k < 240) (hx : x = iz (k : Int)) (h : Q (some (zi (iz (S k)))) M) : zEv Γ 177 [zo 10 0 0, zi x] M Q := by
  refine en_177 (bk_177_0 ?_)
  obtain ⟨h1, h2, h3, h4, h5⟩ := hB
  subst hx
  rw [h1, iz_add, show (b : Int) + (k : Int) = ((b + k : Nat) : Int) by omega, iz_clN (by omega), h4 k hk]
  exact ⟨iz_inN (by omega) (by omega), h⟩
theorem r_greater {x y : Int} (h1 : -2147483648 ≤ x ∧ x < 2147483648) (h2 : -2147483648 ≤ y ∧ y < 2147483648) (h : Q (some (zi (iz (max x y)))) M) : zEv Γ 185 [zi (iz x), zi (iz y)] M Q := by
  refine en_185 (bk_185_0 ?_)
  simp (disch := omega) only [iz_le, iz_lt]
  constructor
  · intro q
    rw [show max x y = y by omega] at h
    exact h
  · intro q
    rw [show max x y = x by omega] at h
    exact h
/-- up(v, by) -/
theorem r_up {v m : Int} (h1 : 0 ≤ v ∧ v < 1000000000) (h2 : 1 ≤ m ∧ m < 1000000) (h : Q (some (zi (iz ((v + m - 1) / m)))) M) : zEv Γ 184 [zi (iz v), zi (iz m)] M Q := by
  refine en_184 (bk_184_0 ?_)
  rw [show (1 : Int32) = iz 1 from rfl, show (0 : Int32) = iz 0 from rfl, iz_add, iz_sub, iz_div (by omega) (by omega) (by omega) (by omega), iz_eq (by omega) (by omega) (by omega) (by omega)]
  exact ⟨by omega, h⟩
end Z30
