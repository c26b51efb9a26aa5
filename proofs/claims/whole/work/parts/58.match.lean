/-! the best rows: the mathematics, and the class's tables -/
def mxI (f : Nat → Int) (ok : Nat → Bool) (z : Int) : Nat → Int
  | 0 => z
  | i + 1 => if ok i = true then max (mxI f ok z i) (f i) else mxI f ok z i
def frS (S : SB) (a i : Nat) : Int := if a = 7 then 0 else S (129 + (7 * a + i))
def may (S : SB) (s a i : Nat) : Bool := !s.testBit i && (decide (a = 7) || decide (S (178 + (7 * a + i)) = 0))
def lbB (B : Bool) (i : Nat) : Nat := if B = true then i else 7
def mv (S : SB) (B : Bool) (R : Nat) (w : Nat → Nat → Int) : Nat → Nat → Nat → Int
  | 0 => fun _ _ => 0
  | d + 1 => fun s a => mxI (fun i => w i (R - (d + 1)) + frS S a i + mv S B R w d (s ||| 2 ^ i) (lbB B i)) (may S s a) (mv S B R w d s 7) (S 1).toNat
def cnd (S : SB) (B : Bool) (R : Nat) (w : Nat → Nat → Int) (j s a i : Nat) : Int := w i j + frS S a i + mv S B R w (R - (j + 1)) (s ||| 2 ^ i) (lbB B i)
theorem mv_s {S : SB} {B : Bool} {R : Nat} {w : Nat → Nat → Int} {j s a : Nat} (hj : j < R) : mv S B R w (R - j) s a = mxI (cnd S B R w j s a) (may S s a) (mv S B R w (R - (j + 1)) s 7) (S 1).toNat := by
  have e : R - j = (R - (j + 1)) + 1 := by omega
  have e2 : R - (R - (j + 1) + 1) = j := by omega
  rw [e]
  show mxI (fun i => w i (R - (R - (j + 1) + 1)) + frS S a i + mv S B R w (R - (j + 1)) (s ||| 2 ^ i) (lbB B i)) (may S s a) (mv S B R w (R - (j + 1)) s 7) (S 1).toNat = _
  rw [e2]
  rfl
theorem mxI_b {f : Nat → Int} {ok : Nat → Bool} {z K : Int} (h0 : 0 ≤ z) (hz : z ≤ K) : ∀ n : Nat, (∀ i, i < n → f i ≤ K) → 0 ≤ mxI f ok z n ∧ mxI f ok z n ≤ K
  | 0, _ => ⟨h0, hz⟩
  | n + 1, h => by
    have := mxI_b (ok := ok) h0 hz n (fun i hi => h i (by omega))
    have := h n (by omega)
    rw [mxI]
    split <;> omega
theorem frS_b {S : SB} (hS : SOK S) {a i : Nat} (ha : a ≤ 7) (hi : i < 7) : -999 ≤ frS S a i ∧ frS S a i ≤ 999 := by
  unfold frS
  split
  · omega
  · exact hS.2.2.2.2.2.2.2.2.2.2.2.2.1 _ (by omega)
theorem lbB_le {B : Bool} {i : Nat} (hi : i < 7) : lbB B i ≤ 7 := by
  unfold lbB
  split <;> omega
theorem mv_b {S : SB} (hS : SOK S) {B : Bool} {R : Nat} {w : Nat → Nat → Int} (hw : ∀ i j, i < 7 → j < R → 0 ≤ w i j ∧ w i j ≤ 10800) : ∀ (d : Nat), d ≤ R → ∀ s a, a ≤ 7 → 0 ≤ mv S B R w d s a ∧ mv S B R w d s a ≤ 12000 * (d : Int)
  | 0, _ => fun s a _ => by simp [mv]
  | d + 1, hd => fun s a ha => by
    have h7 := hS.2.1
    have ih := mv_b hS hw (B := B) d (by omega)
    show 0 ≤ mxI _ _ _ _ ∧ mxI _ _ _ _ ≤ _
    have hz := ih s 7 (by omega)
    refine mxI_b hz.1 (by omega) _ (fun i hi => ?_)
    have h1 := hw i (R - (d + 1)) (by omega) (by omega)
    have h2 := frS_b hS ha (show i < 7 by omega)
    have h3 := ih (s ||| 2 ^ i) (lbB B i) (lbB_le (by omega))
    show w i (R - (d + 1)) + frS S a i + mv S B R w d (s ||| 2 ^ i) (lbB B i) ≤ _
    omega
theorem cnd_b {S : SB} (hS : SOK S) {B : Bool} {R : Nat} {w : Nat → Nat → Int} (hw : ∀ i j, i < 7 → j < R → 0 ≤ w i j ∧ w i j ≤ 10800) (hR : R ≤ 7) {j s a i : Nat} (hj : j < R) (ha : a ≤ 7) (hi : i < 7) : -999 ≤ cnd S B R w j s a i ∧ cnd S B R w j s a i ≤ 100000 := by
  have h1 := hw i j hi hj
  have h2 := frS_b hS ha hi
  have h3 := mv_b hS hw (B := B) (R - (j + 1)) (by omega) (s ||| 2 ^ i) (lbB B i) (lbB_le hi)
  unfold cnd
  omega
def pc (s : Nat) : Nat := s % 2 + s / 2 % 2 + s / 4 % 2 + s / 8 % 2 + s / 16 % 2 + s / 32 % 2 + s / 64 % 2
def gn (k : Nat) : Nat := if k = 7 then 0 else 2 ^ k
set_option maxRecDepth 100000 in
theorem bit_get : ∀ s, s < 128 → ∀ i, i < 8 → (iz ((s : Nat) : Int) >>> (iz ((i : Nat) : Int) &&& 31)) &&& 1 = iz (if s.testBit i = true then 1 else 0) := by decide
set_option maxRecDepth 100000 in
theorem bit_or : ∀ s, s < 128 → ∀ i, i < 7 → iz ((s : Nat) : Int) ||| (1 <<< (iz ((i : Nat) : Int) &&& 31)) = iz ((s ||| 2 ^ i : Nat) : Int) ∧ s ||| 2 ^ i < 128 ∧ pc (s ||| 2 ^ i) ≤ pc s + 1 ∧ s ≤ s ||| 2 ^ i := by decide
set_option maxRecDepth 100000 in
theorem bit_gn : ∀ s, s < 128 → ∀ k, k < 8 → (iz ((s : Nat) : Int) ||| iz ((gn k : Nat) : Int)) = iz ((s ||| gn k : Nat) : Int) ∧ (iz ((s : Nat) : Int) &&& iz ((gn k : Nat) : Int)) = iz ((s &&& gn k : Nat) : Int) ∧ s ||| gn k < 128 ∧ s &&& gn k < 128 := by decide
theorem bit_sh : ∀ i, i < 8 → (1 : Int32) <<< (iz ((i : Nat) : Int) &&& 31) = iz ((2 ^ i : Nat) : Int) := by decide
theorem bit_lt : ∀ n, n ≤ 7 → ∀ s, s < 2 ^ n → ∀ i, i < n → s ||| 2 ^ i < 2 ^ n := fun n _ s hs i hi => Nat.or_lt_two_pow hs (Nat.pow_lt_pow_right (by omega) hi)
theorem bit_p : ∀ n, n ≤ 7 → 2 ^ n ≤ 128 := by decide
theorem bit_self (s i : Nat) : (s ||| 2 ^ i).testBit i = true := by simp
def okl (S : SB) (B : Bool) (s a : Nat) : Prop := a = 7 ∨ (B = true ∧ a < (S 1).toNat ∧ s.testBit a = true)
def okc (g R j s : Nat) : Prop := j = R ∨ ((s &&& g) = g ∧ pc s ≤ j + pc g)
def cMt (M : zM) (S : SB) (B : Bool) (R : Nat) (rw : Nat → Nat) (W : Nat → Nat → Int) : Prop := M.1 3 0 0 2 = iz (R : Int) ∧ M.1 3 0 0 5 = iz (if B = true then 1 else 0) ∧ R ≤ 7 ∧ (∀ j, j < R → M.1 3 0 2 j = iz ((rw j : Nat) : Int) ∧ rw j < (S 0).toNat) ∧ ∀ i j, i < (S 1).toNat → j < (S 0).toNat → M.1 3 0 1 (i * 6 + j) = iz (W i j) ∧ 0 ≤ W i j ∧ W i j ≤ 10800
def wR (W : Nat → Nat → Int) (rw : Nat → Nat) (n : Nat) : Nat → Nat → Int := fun i k => if i < n then W i (rw k) else 0
def cCl (M : zM) (S : SB) (B : Bool) (R : Nat) (w : Nat → Nat → Int) (g j0 : Nat) : Prop := ∀ j s a, j0 ≤ j → j ≤ R → s < 2 ^ (S 1).toNat → okc g R j s → okl S B s a → M.1 3 0 5 ((j * 128 + s) * 8 + a) = iz (mv S B R w (R - j) s a)
theorem cMt.w {M : zM} {S : SB} {B : Bool} {R : Nat} {rw : Nat → Nat} {W : Nat → Nat → Int} (h : cMt M S B R rw W) (hS : SOK S) : ∀ i j, i < 7 → j < R → 0 ≤ wR W rw (S 1).toNat i j ∧ wR W rw (S 1).toNat i j ≤ 10800 := fun i j _ hj => by
  unfold wR
  split
  · exact (h.2.2.2.2 i (rw j) (by omega) (h.2.2.2.1 j hj).2).2
  · omega
theorem cMt.off {P : Nat → Nat → Nat → Nat → Prop} {M M' : zM} {S : SB} {B : Bool} {R : Nat} {rw : Nat → Nat} {W : Nat → Nat → Int} (h : cMt M S B R rw W) (ho : Off P M M') (h0 : ¬ P 3 0 0 2) (h1 : ¬ P 3 0 0 5) (h2 : ∀ i, ¬ P 3 0 2 i) (h3 : ∀ i, ¬ P 3 0 1 i) : cMt M' S B R rw W :=
  ⟨(ho.1 _ _ _ _ h0).trans h.1, (ho.1 _ _ _ _ h1).trans h.2.1, h.2.2.1, fun j hj => ⟨(ho.1 _ _ _ _ (h2 j)).trans (h.2.2.2.1 j hj).1, (h.2.2.2.1 j hj).2⟩, fun i j hi hj => ⟨(ho.1 _ _ _ _ (h3 _)).trans (h.2.2.2.2 i j hi hj).1, (h.2.2.2.2 i j hi hj).2⟩⟩
section Z58
variable {Γ : zC} {Q : zQ} {M : zM} {ts R : Nat} {S : SB} {B : Bool} {rw : Nat → Nat} {W : Nat → Nat → Int}
theorem c_slot {a b c : Nat} (h : Q (some (zi (iz (((a * 128 + b) * 8 + c : Nat) : Int)))) M) : zEv Γ 59 [zi (iz (a : Int)), zi (iz (b : Int)), zi (iz (c : Int))] M Q := by
  refine en_59 (bk_59_0 ?_)
  rw [show (128 : Int32) = iz 128 from rfl, show (8 : Int32) = iz 8 from rfl, iz_mul, iz_add, iz_mul, iz_add]
  exact h
def bc1 (x : Int32) : Int32 := x - (((x).toUInt32 >>> (((1 : Int32)).toUInt32 &&& Int32.toUInt32 31)).toInt32 &&& (1431655765 : Int32))
def bc2 (y : Int32) : Int32 := (y &&& (858993459 : Int32)) + (((y).toUInt32 >>> (((2 : Int32)).toUInt32 &&& Int32.toUInt32 31)).toInt32 &&& (858993459 : Int32))
def bc3 (y : Int32) : Int32 := (y + ((y).toUInt32 >>> (((4 : Int32)).toUInt32 &&& Int32.toUInt32 31)).toInt32) &&& (252645135 : Int32)
def bc4 (y : Int32) : Int32 := y + ((y).toUInt32 >>> (((8 : Int32)).toUInt32 &&& Int32.toUInt32 31)).toInt32
def bc5 (y : Int32) : Int32 := (y + ((y).toUInt32 >>> (((16 : Int32)).toUInt32 &&& Int32.toUInt32 31)).toInt32) &&& (63 : Int32)
set_option maxRecDepth 100000 in
theorem bc_pc : ∀ s, s < 128 → bc5 (bc4 (bc3 (bc2 (bc1 (iz ((s : Nat) : Int)))))) = iz ((pc s : Nat) : Int) := by decide
theorem c_bitCount {s : Nat} (hs : s < 128) (h : Q (some (zi (iz ((pc s : Nat) : Int)))) M) : zEv Γ 254 [zi (iz (s : Int))] M Q := by
  refine en_254 (bk_254_0 ?_)
  rw [← bc_pc s hs] at h
  exact h
theorem c_last1 (hM : cMt M S B R rw W) {i : Nat} (hi : i < 7) (h : Q (some (zi (iz ((lbB B i : Nat) : Int)))) M) : zEv Γ 58 [zo 3 0 0, zi (iz (i : Int))] M Q := by
  have e := hM.2.1
  refine en_58 (bk_58_0 ?_)
  cases B with
  | false => exact ⟨fun _ => h, fun q => absurd e q⟩
  | true =>
    refine ⟨fun q => absurd (e.symm.trans q) (by decide), fun _ => ⟨fun q => ?_, fun _ => h⟩⟩
    rw [iz_m1, iz_eq (by omega) (by omega) (by omega) (by omega)] at q
    omega
theorem c_lastN (hM : cMt M S B R rw W) (h : Q (some (zi 7)) M) : zEv Γ 58 [zo 3 0 0, zi (iz (-1))] M Q :=
  en_58 (bk_58_0 ⟨fun _ => h, fun _ => ⟨fun _ => h, fun q => absurd rfl q⟩⟩)
theorem c_may {s a i : Nat} (hS : SOK S) (hC : cS M ts S) (hs : s < 128) (ha : a ≤ 7) (hi : i < 7) (ht : may S s a i = true → Q (some (zi 1)) M) (hf : ¬ may S s a i = true → Q (some (zi 0)) M) : zEv Γ 56 [zo 7 ts 0, zi (iz (s : Int)), zi (iz (a : Int)), zi (iz (i : Int))] M Q := by
  refine en_56 (bk_56_0 ?_)
  rw [bit_get s hs i (by omega)]
  unfold may at ht hf
  cases hb : s.testBit i with
  | true =>
    rw [hb] at hf
    exact ⟨fun _ => ⟨Or.inl rfl, hf (by simp)⟩, fun q => absurd q (by decide)⟩
  | false =>
    rw [hb] at ht hf
    refine ⟨fun q => absurd rfl q, fun _ => ⟨fun q => ⟨Or.inr rfl, ht ?_⟩, fun q => ?_⟩⟩
    · rw [show (7 : Int32) = iz 7 from rfl, iz_eq (by omega) (by omega) (by omega) (by omega)] at q
      rw [decide_eq_true (by omega)]
      rfl
    · rw [show (7 : Int32) = iz 7 from rfl, iz_eq (by omega) (by omega) (by omega) (by omega)] at q
      rw [show (7 : Int32) = iz 7 from rfl, iz_mul, iz_add, show (a : Int) * 7 + (i : Int) = ((7 * a + i : Nat) : Int) by omega, iz_clN (by omega), hC.2.2.2.2.2.2.2.2.2.2.2.2 _ (by omega)]
      have hb2 := hS.2.2.2.2.2.2.2.2.2.2.2.2.2.1 (7 * a + i) (by omega)
      rw [decide_eq_false (show ¬ a = 7 by omega)] at ht hf
      refine ⟨iz_inN (by omega) (by omega), ?_⟩
      rw [iz0, iz_eq (by omega) (by omega) (by omega) (by omega)]
      exact ⟨fun q2 => ⟨Or.inl rfl, hf (by simpa using q2)⟩, fun q2 => ⟨Or.inr rfl, ht (by simpa using q2)⟩⟩
theorem c_him {j s a i : Nat} (hS : SOK S) (hC : cS M ts S) (hM : cMt M S B R rw W) (hj : j < R) (hs : s < 128) (ha : a ≤ 7) (hi : i < (S 1).toNat) (hc : M.1 3 0 5 (((j + 1) * 128 + (s ||| 2 ^ i)) * 8 + lbB B i) = iz (mv S B R (wR W rw (S 1).toNat) (R - (j + 1)) (s ||| 2 ^ i) (lbB B i))) (h : Q (some (zi (iz (cnd S B R (wR W rw (S 1).toNat) j s a i)))) M) : zEv Γ 57 [zo 3 0 0, zo 7 ts 0, zi (iz (j : Int)), zi (iz (s : Int)), zi (iz (a : Int)), zi (iz (i : Int))] M Q := by
  have h7 := hS.2.1
  have h6 := hS.1
  have hR := hM.2.2.1
  have hl := hM.2.2.2.1 j hj
  have hb := bit_or s hs i (by omega)
  have hlb := lbB_le (B := B) (show i < 7 by omega)
  have hw := hM.2.2.2.2 i (rw j) hi hl.2
  have ew : wR W rw (S 1).toNat i j = W i (rw j) := by unfold wR; rw [if_pos hi]
  have fin : ∀ f : Int, f = frS S a i → zEv Γ 58 [zo 3 0 0, zi (iz (i : Int))] M (fun o M1 => ∃ r1, o = some (zi r1) ∧ (zEv Γ 59 [zi (iz (j : Int) + 1), zi (iz (s : Int) ||| ((1 : Int32) <<< (iz (i : Int) &&& 31))), zi r1] (M1) (fun o M2 => ∃ r2, o = some (zi r2) ∧ (vp_in r2 8192 ∧ (vp_in (iz (j : Int)) 7 ∧ (vp_in ((iz (i : Int) * 6) + ((M2).1 3 0 2 (iz (j : Int)).toNatClampNeg)) 42 ∧ Q (some (zi ((((M2).1 3 0 1 (((iz (i : Int) * 6) + ((M2).1 3 0 2 (iz (j : Int)).toNatClampNeg))).toNatClampNeg) + iz f) + ((M2).1 3 0 5 (r2).toNatClampNeg)))) (M2))))))) := by
    intro f hf
    refine c_last1 hM (by omega) ⟨_, rfl, ?_⟩
    rw [iz_s, hb.1]
    refine c_slot ⟨_, rfl, iz_inN (by omega) (by omega), iz_inN (by omega) (by omega), ?_⟩
    rw [iz_clN (show j < 2147483648 by omega), hl.1, show (6 : Int32) = iz 6 from rfl, iz_mul, iz_add, show (i : Int) * 6 + ((rw j : Nat) : Int) = ((i * 6 + rw j : Nat) : Int) by omega, iz_clN (by omega), iz_clN (by omega), hw.1, hc, iz_add, iz_add, hf]
    refine ⟨iz_inN (by omega) (by omega), ?_⟩
    unfold cnd at h
    rw [ew] at h
    exact h
  refine en_57 (bk_57_0 ⟨fun q => ?_, fun q => ?_⟩)
  · rw [show (7 : Int32) = iz 7 from rfl, iz_eq (by omega) (by omega) (by omega) (by omega)] at q
    rw [show (7 : Int32) = iz 7 from rfl, iz_mul, iz_add, show (a : Int) * 7 + (i : Int) = ((7 * a + i : Nat) : Int) by omega, iz_clN (show 7 * a + i < 2147483648 by omega), hC.2.2.2.2.2.2.2.2.2.2.2.1 _ (show 7 * a + i < 49 by omega)]
    refine ⟨iz_inN (by omega) (by omega), fin _ ?_⟩
    unfold frS
    rw [if_neg (by omega)]
  · rw [show (7 : Int32) = iz 7 from rfl, iz_eq (by omega) (by omega) (by omega) (by omega)] at q
    refine fin 0 ?_
    unfold frS
    rw [if_pos (by omega)]
def oAt (j s c t f i : Nat) : Prop := c = 3 ∧ t = 0 ∧ f = 5 ∧ (j * 128 + s) * 8 ≤ i ∧ i < (j * 128 + s) * 8 + 8
theorem cCl.off {j s g : Nat} {w : Nat → Nat → Int} {M M' : zM} (hS : SOK S) (h : cCl M S B R w g (j + 1)) (ho : Off (oAt j s) M M') (hs : s < 128) : cCl M' S B R w g (j + 1) := fun j' s' a' h1 h2 h3 h4 h5 => by
  rw [ho.1 _ _ _ _ (by unfold oAt; omega)]
  exact h j' s' a' h1 h2 h3 h4 h5
theorem c_solveAt {j s g : Nat} (hS : SOK S) (hC : cS M ts S) (hM : cMt M S B R rw W) (hj : j < R) (hs : s < 2 ^ (S 1).toNat) (hcl : cCl M S B R (wR W rw (S 1).toNat) g (j + 1)) (hok : (s &&& g) = g ∧ pc s ≤ j + pc g)
    (h : ∀ M', Off (oAt j s) M M' → (∀ a, okl S B s a → M'.1 3 0 5 ((j * 128 + s) * 8 + a) = iz (mv S B R (wR W rw (S 1).toNat) (R - j) s a)) → Q none M') : zEv Γ 53 [zo 3 0 0, zo 7 ts 0, zi (iz (j : Int)), zi (iz (s : Int))] M Q := by
  have h7 := hS.2.1
  have h6 := hS.1
  have hR := hM.2.2.1
  have hp := bit_p (S 1).toNat (by omega)
  have hw := hM.w hS
  have loop : ∀ (d a : Nat) (M2 : zM), a + d = 8 → (Off (oAt j s) M M2 ∧ (B = true ∨ 7 ≤ a) ∧ ∀ a', a' < a → okl S B s a' → M2.1 3 0 5 ((j * 128 + s) * 8 + a') = iz (mv S B R (wR W rw (S 1).toNat) (R - j) s a')) → zGo Γ 53 Q 15 [some (zo 3 0 0), some (zo 7 ts 0), some (zi (iz (j : Int))), some (zi (iz (s : Int))), some (zi (iz (a : Int))), none, none] [] M2 := by
    refine zloop (P := fun a M2 => Off (oAt j s) M M2 ∧ (B = true ∨ 7 ≤ a) ∧ ∀ a', a' < a → okl S B s a' → M2.1 3 0 5 ((j * 128 + s) * 8 + a') = iz (mv S B R (wR W rw (S 1).toNat) (R - j) s a')) (G := fun a M2 => zGo Γ 53 Q 15 [some (zo 3 0 0), some (zo 7 ts 0), some (zi (iz (j : Int))), some (zi (iz (s : Int))), some (zi (iz (a : Int))), none, none] [] M2) (n := 8) ?_ ?_
    · rintro M2 ⟨o2, -, c2⟩
      refine bk_53_15 ⟨fun _ => h M2 o2 (fun a ha => c2 a (by rcases ha with e | ⟨_, e, _⟩ <;> omega) ha), fun q => absurd (by decide) q⟩
    · rintro a M2 ha ⟨o2, b2, c2⟩ ih
      have C2 := hC.off o2 (by unfold oAt; intro f i; omega)
      have M2t := hM.off o2 (by unfold oAt; omega) (by unfold oAt; omega) (by unfold oAt; omega) (by unfold oAt; omega)
      have cl2 := hcl.off hS o2 (by omega)
      have go : okl S B s a → zEv Γ 59 [zi (iz (j : Int) + 1), zi (iz (s : Int)), zi 7] M2 (fun o M1 => ∃ r1, o = some (zi r1) ∧ (vp_in r1 8192 ∧ zGo Γ 53 Q 60 [some (zo 3 0 0), some (zo 7 ts 0), some (zi (iz (j : Int))), some (zi (iz (s : Int))), some (zi (iz (a : Int))), some (zi ((M1).1 3 0 5 (r1).toNatClampNeg)), some (zi 0)] [] (M1))) := by
        intro hl
        rw [iz_s]
        refine c_slot (c := 7) ⟨_, rfl, iz_inN (by omega) (by omega), ?_⟩
        rw [iz_clN (by omega), cl2 (j + 1) s 7 (by omega) (by omega) hs (Or.inr ⟨hok.1, by omega⟩) (Or.inl rfl)]
        have hz := mv_b hS hw (B := B) (R - (j + 1)) (by omega) s 7 (by omega)
        refine nloop (G := fun i => zGo Γ 53 Q 60 [some (zo 3 0 0), some (zo 7 ts 0), some (zi (iz (j : Int))), some (zi (iz (s : Int))), some (zi (iz (a : Int))), some (zi (iz (mxI (cnd S B R (wR W rw (S 1).toNat) j s a) (may S s a) (mv S B R (wR W rw (S 1).toNat) (R - (j + 1)) s 7) i))), some (zi (iz (i : Int)))] [] M2) (n := (S 1).toNat) ?_ (fun i hi ihi => ?_) (S 1).toNat 0 (by omega)
        · refine bk_53_60 ⟨fun _ => c_slot ⟨_, rfl, iz_inN (by omega) (by omega), ?_⟩, fun q => ?_⟩
          · rw [iz_clN (by omega), iz_s, ← mv_s hj]
            refine ih _ ⟨o2.w _ (by unfold oAt; omega), b2.imp id (fun z => by omega), fun a' ha' hl' => ?_⟩
            by_cases e : a' = a
            · rw [e, zw_eq]
            · rw [zw_ne (by omega)]
              exact c2 a' (by omega) hl'
          · rw [C2.1 1 (by omega), iz_le (by omega) (by omega) (by omega) (by omega)] at q
            omega
        · have hcb : ∀ i, i < (S 1).toNat → cnd S B R (wR W rw (S 1).toNat) j s a i ≤ 100000 := fun i hi => (cnd_b hS hw hR hj (by omega) (by omega)).2
          have hmb := mxI_b (ok := may S s a) (f := cnd S B R (wR W rw (S 1).toNat) j s a) (K := 100000) hz.1 (by omega) i (fun k hk => hcb k (by omega))
          rw [mxI] at ihi
          refine bk_53_60 ⟨fun q => ?_, fun _ => c_may hS C2 (by omega) (by omega) (by omega) (fun hm => ⟨_, rfl, fun q => absurd q (by decide), fun _ => ?_⟩) (fun hm => ⟨_, rfl, fun _ => ?_, fun q => absurd rfl q⟩)⟩
          · rw [C2.1 1 (by omega), iz_le (by omega) (by omega) (by omega) (by omega)] at q
            omega
          · have hb := bit_or s (by omega) i (by omega)
            refine c_him hS C2 M2t hj (by omega) (by omega) hi (cl2 (j + 1) (s ||| 2 ^ i) (lbB B i) (by omega) (by omega) (bit_lt _ (by omega) s hs i hi) (Or.inr ⟨?_, by omega⟩) ?_) ⟨_, rfl, ?_⟩
            · apply Nat.eq_of_testBit_eq
              intro k
              have := congrArg (fun x => x.testBit k) hok.1
              simp only [Nat.testBit_and, Nat.testBit_or] at this ⊢
              cases h1 : g.testBit k <;> cases h2 : s.testBit k <;> simp_all
            · unfold okl lbB
              cases B
              · exact Or.inl rfl
              · exact Or.inr ⟨rfl, hi, bit_self s i⟩
            · have hcb1 := cnd_b (s := s) (B := B) hS hw hR hj (show a ≤ 7 by omega) (show i < 7 by omega)
              rw [if_pos hm] at ihi
              rw [iz_max (by omega) (by omega) (by omega) (by omega), iz_s]
              exact ihi
          · rw [if_neg hm] at ihi
            rw [iz_s]
            exact ihi
      refine bk_53_15 ⟨fun q => ?_, fun _ => ⟨fun q => go (Or.inl ?_), fun q => ⟨fun q2 => go (Or.inr ?_), fun q2 => ?_⟩⟩⟩
      · rw [show (7 : Int32) = iz 7 from rfl, iz_lt (by omega) (by omega) (by omega) (by omega)] at q
        omega
      · rw [show (7 : Int32) = iz 7 from rfl, iz_le (by omega) (by omega) (by omega) (by omega)] at q
        omega
      · rw [show (7 : Int32) = iz 7 from rfl, iz_le (by omega) (by omega) (by omega) (by omega)] at q
        rw [bit_get s (by omega) a (by omega)] at q2
        cases hb : s.testBit a with
        | false => rw [hb] at q2; exact absurd rfl q2
        | true =>
          refine ⟨b2.resolve_right (by omega), ?_, rfl⟩
          apply Classical.byContradiction
          intro z
          rw [Nat.testBit_lt_two_pow (Nat.lt_of_lt_of_le hs (Nat.pow_le_pow_right (by omega) (by omega)))] at hb
          cases hb
      · rw [show (7 : Int32) = iz 7 from rfl, iz_le (by omega) (by omega) (by omega) (by omega)] at q
        rw [bit_get s (by omega) a (by omega)] at q2
        rw [iz_s]
        refine ih M2 ⟨o2, b2.imp id (fun z => by omega), fun a' ha' hl' => ?_⟩
        by_cases e : a' = a
        · subst e
          rcases hl' with e | ⟨_, _, e⟩
          · omega
          · rw [e] at q2
            exact absurd q2 (by decide)
        · exact c2 a' (by omega) hl'
  have e5 := hM.2.1
  refine en_53 (bk_53_0 ?_)
  cases B with
  | false => exact ⟨fun _ => loop 1 7 M (by omega) ⟨Off.rf M, Or.inr (by omega), fun a' ha hl => by rcases hl with e | ⟨e, _⟩ <;> first | omega | cases e⟩, fun q => absurd e5 q⟩
  | true => exact ⟨fun q => absurd (e5.symm.trans q) (by decide), fun _ => loop 8 0 M (by omega) ⟨Off.rf M, Or.inl rfl, fun a' ha => by omega⟩⟩
end Z58
