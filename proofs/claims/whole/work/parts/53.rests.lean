/-! rests: rows of few bids, one behind the other -/
def qu (B ρ : Nat) : Nat → Nat
  | 0 => ρ
  | m + 1 => qu B ρ m / B
def dg (B n ρ i : Nat) : Int := if i < n then ((qu B ρ (n - 1 - i) % B : Nat) : Int) else 0
def rws (B : Nat) : Nat → Nat
  | 0 => 1
  | n + 1 => rws B n * B
theorem qu_rws {B ρ : Nat} : ∀ n, qu B ρ n = ρ / rws B n
  | 0 => (Nat.div_one ρ).symm
  | n + 1 => by rw [qu, rws, qu_rws n, Nat.div_div_eq_div_mul]
theorem rws_pos {B : Nat} (h : 0 < B) : ∀ n, 0 < rws B n
  | 0 => Nat.one_pos
  | n + 1 => Nat.mul_pos (rws_pos h n) h
theorem rws_lt {B ρ n : Nat} (h : 0 < B) : ρ < rws B n ↔ qu B ρ n = 0 := by
  rw [qu_rws, Nat.div_eq_zero_iff]
  have := rws_pos h n
  omega
theorem rws_le {B n : Nat} (h1 : 1 ≤ B) (hB : B ≤ 6) (hn : n ≤ 4) : rws B n ≤ 1296 := by
  rcases (show B = 1 ∨ B = 2 ∨ B = 3 ∨ B = 4 ∨ B = 5 ∨ B = 6 by omega) with rfl | rfl | rfl | rfl | rfl | rfl <;> (rcases (show n = 0 ∨ n = 1 ∨ n = 2 ∨ n = 3 ∨ n = 4 by omega) with rfl | rfl | rfl | rfl | rfl <;> decide)
theorem qu_c {B a b : Nat} (h1 : 1 ≤ B) (hB : B ≤ 6) (h : b = a + 1) (q : a % B + 1 = B) : b % B = 0 ∧ b / B = a / B + 1 := by
  rcases (show B = 1 ∨ B = 2 ∨ B = 3 ∨ B = 4 ∨ B = 5 ∨ B = 6 by omega) with rfl | rfl | rfl | rfl | rfl | rfl <;> omega
theorem qu_d {B a b : Nat} (h1 : 1 ≤ B) (hB : B ≤ 6) (h : b = a + 1) (q : a % B + 1 < B) : b % B = a % B + 1 ∧ b / B = a / B := by
  rcases (show B = 1 ∨ B = 2 ∨ B = 3 ∨ B = 4 ∨ B = 5 ∨ B = 6 by omega) with rfl | rfl | rfl | rfl | rfl | rfl <;> omega
theorem qu_up {B ρ σ m : Nat} (h : qu B ρ m = qu B σ m) : ∀ j, qu B ρ (m + j) = qu B σ (m + j)
  | 0 => h
  | j + 1 => by show qu B ρ (m + j) / B = qu B σ (m + j) / B; rw [qu_up h j]
theorem dg_b {B n ρ i : Nat} (h1 : 1 ≤ B) (hB : B ≤ 6) : 0 ≤ dg B n ρ i ∧ dg B n ρ i ≤ 5 := by
  unfold dg
  have := Nat.mod_lt (qu B ρ (n - 1 - i)) (show B > 0 by omega)
  split <;> omega
theorem iz_mod {a B : Nat} (ha : a < 2147483648) (h0 : 0 < B) (hB : B < 2147483648) : iz (a : Int) / iz (B : Int) = iz ((a / B : Nat) : Int) ∧ iz (a : Int) - iz ((a / B : Nat) : Int) * iz (B : Int) = iz ((a % B : Nat) : Int) := by
  constructor
  · rw [iz_div (by omega) (by omega) (by omega) (by omega)]
    rfl
  · rw [iz_mul, iz_sub]
    congr 1
    have := Nat.div_add_mod a B
    rw [Nat.mul_comm] at this
    generalize hc : a / B * B = c at this
    rw [show ((a / B : Nat) : Int) * (B : Int) = ((a / B * B : Nat) : Int) by rw [Int.natCast_mul], hc]
    omega
def isR (S : SB) (top ρ : Nat) : Bool := (fnd (rstl S (dg (top + 1) (S 1).toNat ρ) top) 0 (S 1).toNat).isNone
def crt (S : SB) (top : Nat) : Nat → Nat
  | 0 => 0
  | ρ + 1 => crt S top ρ + if isR S top ρ = true then 1 else 0
def rwS (S : SB) (top : Nat) : Nat := rws (top + 1) (S 1).toNat
/-- the search up to the k-th rest ended with f, the row then being g -/
def RR (S : SB) (top k f : Nat) (g : Nat → Int) : Prop := (∃ ρ, ρ < rwS S top ∧ isR S top ρ = true ∧ crt S top ρ = k ∧ f = k + 1 ∧ ∀ i, i < (S 1).toNat → g i = dg (top + 1) (S 1).toNat ρ i) ∨ (crt S top (rwS S top) ≤ k ∧ f = crt S top (rwS S top))
theorem crt_mono {S : SB} {top : Nat} : ∀ (d ρ : Nat), crt S top ρ ≤ crt S top (ρ + d)
  | 0, _ => Nat.le_refl _
  | d + 1, ρ => Nat.le_trans (crt_mono d ρ) (by show _ ≤ crt S top (ρ + d) + _; omega)
theorem crt_le {S : SB} {top : Nat} : ∀ ρ, crt S top ρ ≤ ρ
  | 0 => Nat.le_refl _
  | ρ + 1 => by
    rw [crt]
    have := crt_le (S := S) (top := top) ρ
    split <;> omega
theorem crt_s {S : SB} {top ρ : Nat} (h : isR S top ρ = true) : crt S top (ρ + 1) = crt S top ρ + 1 := by rw [crt, if_pos h]
theorem crt_n {S : SB} {top ρ : Nat} (h : ¬ isR S top ρ = true) : crt S top (ρ + 1) = crt S top ρ := by rw [crt, if_neg h]; rfl
def nthR (S : SB) (top k : Nat) : Option Nat := fnd (fun ρ => isR S top ρ && crt S top ρ == k) 0 (rwS S top)
theorem nthR_some {S : SB} {top k ρ : Nat} (h1 : ρ < rwS S top) (h2 : isR S top ρ = true) (h3 : crt S top ρ = k) : nthR S top k = some ρ := by
  refine fnd_eq _ _ (fun σ _ hσ => ?_) ?_ (by omega) (by omega)
  · rw [Bool.and_eq_false_iff]
    by_cases q : isR S top σ = true
    · right
      have := crt_s q
      have := crt_mono (S := S) (top := top) (ρ - (σ + 1)) (σ + 1)
      rw [show σ + 1 + (ρ - (σ + 1)) = ρ by omega] at this
      simp only [beq_eq_false_iff_ne]
      omega
    · left
      simpa using q
  · rw [Bool.and_eq_true, h2, h3]
    simp
theorem nthR_none {S : SB} {top k : Nat} (h : crt S top (rwS S top) ≤ k) : nthR S top k = none := by
  refine fnd_no _ _ (fun σ _ hσ => ?_)
  rw [Bool.and_eq_false_iff]
  by_cases q : isR S top σ = true
  · right
    have := crt_s q
    have := crt_mono (S := S) (top := top) (rwS S top - (σ + 1)) (σ + 1)
    rw [show σ + 1 + (rwS S top - (σ + 1)) = rwS S top by omega] at this
    simp only [beq_eq_false_iff_ne]
    omega
  · left
    simpa using q
abbrev fewOk (S : SB) (w : Int32) : Prop := S 1 ≤ 4 ∧ 0 ≤ w.toInt ∧ w.toInt ≤ 5
def gRests (S : SB) (w : Int32) : Int := if fewOk S w then ((crt S w.toInt.toNat (rwS S w.toInt.toNat) : Nat) : Int) else -1
def gRest (S : SB) (w k i : Int32) : Int := if fewOk S w ∧ (0 ≤ i.toInt ∧ i.toInt < S 1) ∧ 0 ≤ k.toInt then (match nthR S w.toInt.toNat k.toInt.toNat with
  | some ρ => dg (w.toInt.toNat + 1) (S 1).toNat ρ i.toInt.toNat
  | none => -1) else -1
section Z53
variable {Γ : zC} {Q : zQ} {M : zM} {b cnt t ts : Nat} {S : SB} {SS : Nat → SB} {bd : Nat → Int}
theorem c_nextRow {top ρ : Nat} (hS : SOK S) (hC : cS M ts S) (htop : top ≤ 5) (hb : ∀ k, k < 7 → M.1 6 0 2 k = iz (dg (top + 1) (S 1).toNat ρ k))
    (hf : ∀ M', Off (fun c t f _ => c = 6 ∧ t = 0 ∧ f = 2) M M' → qu (top + 1) (ρ + 1) (S 1).toNat = qu (top + 1) ρ (S 1).toNat + 1 → Q (some (zi 0)) M')
    (ht : ∀ M', Off (fun c t f _ => c = 6 ∧ t = 0 ∧ f = 2) M M' → qu (top + 1) (ρ + 1) (S 1).toNat = qu (top + 1) ρ (S 1).toNat → (∀ k, k < 7 → M'.1 6 0 2 k = iz (dg (top + 1) (S 1).toNat (ρ + 1) k)) → Q (some (zi 1)) M') : zEv Γ 96 [zo 6 0 0, zo 7 ts 0, zi (iz (top : Int))] M Q := by
  have h7 := hS.2.1
  refine en_96 (bk_96_0 ?_)
  rw [hC.1 1 (by omega), iz1, iz_sub]
  have hn : S 1 = ((S 1).toNat : Int) := by omega
  have hn7 : (S 1).toNat ≤ 7 := by omega
  rw [hn]
  revert hb hf ht hn7
  generalize (S 1).toNat = n
  intro hb hf ht hn7
  rw [show (n : Int) - 1 = (n : Int) - 1 - ((0 : Nat) : Int) by omega]
  refine zloop (P := fun m M1 => Off (fun c t f _ => c = 6 ∧ t = 0 ∧ f = 2) M M1 ∧ (∀ k, k < 7 → M1.1 6 0 2 k = iz (if k + m < n then dg (top + 1) n ρ k else 0)) ∧ qu (top + 1) (ρ + 1) m = qu (top + 1) ρ m + 1 ∧ ∀ m', m' < m → qu (top + 1) (ρ + 1) m' % (top + 1) = 0) (G := fun m M1 => zGo Γ 96 Q 7 [some (zo 6 0 0), none, some (zi (iz (top : Int))), some (zi (iz ((n : Int) - 1 - (m : Int))))] [] M1) (n := n) ?_ ?_ n 0 M (by omega) ⟨Off.rf M, fun k hk => ?_, rfl, fun m' hm => by omega⟩
  · rintro M1 ⟨o1, hb1, hq, hz⟩
    refine bk_96_7 ⟨fun _ => ⟨Or.inl rfl, hf M1 o1 hq⟩, fun q => ?_⟩
    rw [iz0, iz_lt (by omega) (by omega) (by omega) (by omega)] at q
    omega
  · rintro m M1 hm ⟨o1, hb1, hq, hz⟩ ih
    have ei : (n : Int) - 1 - (m : Int) = ((n - 1 - m : Nat) : Int) := by omega
    have eb : M1.1 6 0 2 (n - 1 - m) = iz ((qu (top + 1) ρ m % (top + 1) : Nat) : Int) := by
      rw [hb1 _ (by omega), if_pos (by omega)]
      unfold dg
      rw [if_pos (by omega), show n - 1 - (n - 1 - m) = m by omega]
    have hlt := Nat.mod_lt (qu (top + 1) ρ m) (show top + 1 > 0 by omega)
    rw [ei]
    refine bk_96_7 ⟨fun q => ?_, fun _ => ⟨iz_inN (by omega) (by omega), ?_⟩⟩
    · rw [iz0, iz_lt (by omega) (by omega) (by omega) (by omega)] at q
      omega
    rw [iz_clN (by omega), eb, iz_le (by omega) (by omega) (by omega) (by omega)]
    refine ⟨fun q => ⟨iz_inN (by omega) (by omega), ?_⟩, fun q => ⟨iz_inN (by omega) (by omega), iz_inN (by omega) (by omega), Or.inr rfl, ?_⟩⟩
    · have hc := qu_c (B := top + 1) (by omega) (by omega) hq (by omega)
      have := ih (zw M1 6 0 2 (n - 1 - m) 0) ⟨o1.w _ (by omega), fun k hk => ?_, hc.2, fun m' hm' => ?_⟩
      · rw [iz_m1, iz_add]
        rw [show ((n - 1 - m : Nat) : Int) + -1 = (n : Int) - 1 - ((m + 1 : Nat) : Int) by omega]
        exact this
      · by_cases z : k = n - 1 - m
        · rw [z, zw_eq, if_neg (by omega)]; rfl
        · rw [zw_ne (by omega), hb1 k hk]
          congr 1
          by_cases z2 : k + m < n
          · rw [if_pos z2, if_pos (by omega)]
          · rw [if_neg z2, if_neg (by omega)]
      · by_cases z : m' = m
        · rw [z]; exact hc.1
        · exact hz m' (by omega)
    · have hd := qu_d (B := top + 1) (by omega) (by omega) hq (by omega)
      have hu := qu_up (B := top + 1) (ρ := ρ + 1) (σ := ρ) (m := m + 1) hd.2
      refine ht _ (o1.w _ (by omega)) ?_ (fun k hk => ?_)
      · have := hu (n - (m + 1))
        rw [show m + 1 + (n - (m + 1)) = n by omega] at this
        exact this
      · by_cases z : k = n - 1 - m
        · rw [z, zw_eq]
          unfold dg
          rw [if_pos (by omega), show n - 1 - (n - 1 - m) = m by omega, hd.1, iz1, iz_add]
          rfl
        · rw [zw_ne (by omega), hb1 k hk]
          congr 1
          unfold dg
          by_cases z1 : k < n
          · rw [if_pos z1, if_pos z1]
            by_cases z2 : k + m < n
            · rw [if_pos z2]
              have := hu (n - 1 - k - (m + 1))
              rw [show m + 1 + (n - 1 - k - (m + 1)) = n - 1 - k by omega] at this
              rw [this]
            · rw [if_neg z2, hz (n - 1 - k) (by omega)]
              rfl
          · rw [if_neg z1, if_neg z1, if_neg (by omega)]
  · rw [hb k hk]
    congr 1
    by_cases z : k < n
    · rw [if_pos (by omega)]
    · rw [if_neg (by omega)]
      unfold dg
      rw [if_neg z]
theorem c_seekRests {top k : Nat} (hS : SOK S) (hC : cS M ts S) (hI : lI M 1) (h4 : S 1 ≤ 4) (htop : top ≤ 5) (hk : k < 1296)
    (h : ∀ (M' : zM) (f : Nat) (g : Nat → Int), Off cTn M M' → lI M' 1 → f ≤ 1296 → (∀ i, i < 7 → M'.1 6 0 2 i = iz (g i)) → RR S top k f g → Q (some (zi (iz (f : Int)))) M') : zEv Γ 95 [zo 6 0 0, zo 7 ts 0, zi (iz (top : Int)), zi (iz ((k + 1 : Nat) : Int))] M Q := by
  have h7 := hS.2.1
  have hrw : rwS S top ≤ 1296 := rws_le (by omega) (by omega) (by omega)
  refine en_95 (bk_95_0 (zloop (P := fun i M1 => Off cTn M M1 ∧ lI M1 1 ∧ ∀ j, j < i → M1.1 6 0 2 j = iz 0) (G := fun i M1 => zGo Γ 95 Q 3 [some (zo 6 0 0), some (zo 7 ts 0), some (zi (iz (top : Int))), some (zi (iz ((k + 1 : Nat) : Int))), some (zi (iz (i : Int))), none] [] M1) (n := 7) ?_ ?_ 7 0 M (by omega) ⟨Off.rf M, hI, fun j hj => by omega⟩))
  · rintro M1 ⟨o1, i1, b1⟩
    refine bk_95_3 ⟨fun _ => ?_, fun q => absurd (by decide) q⟩
    refine zloop (P := fun ρ M2 => Off cTn M M2 ∧ lI M2 1 ∧ (∀ j, j < 7 → M2.1 6 0 2 j = iz (dg (top + 1) (S 1).toNat ρ j)) ∧ crt S top ρ ≤ k ∧ ρ < rwS S top) (G := fun ρ M2 => zGo Γ 95 Q 30 [some (zo 6 0 0), some (zo 7 ts 0), some (zi (iz (top : Int))), some (zi (iz ((k + 1 : Nat) : Int))), some (zi (iz ((crt S top ρ : Nat) : Int))), some (zi (iz (ρ : Int)))] [] M2) (n := 1296) ?_ ?_ 1296 0 M1 (by omega) ⟨o1, i1, fun j hj => ?_, Nat.zero_le _, rws_pos (by omega) _⟩
    · rintro M2 ⟨o2, i2, b2, hc, hρ⟩
      omega
    · rintro ρ M2 hρ6 ⟨o2, i2, b2, hc, hρ⟩ ih
      have hC2 := hC.off o2 (by intro f i; unfold cTn; omega)
      refine bk_95_30 ⟨fun q => ?_, fun _ => ?_⟩
      · rw [show (1296 : Int32) = iz 1296 from rfl, iz_le (by omega) (by omega) (by omega) (by omega)] at q
        omega
      refine c_firstRestless (bd := dg (top + 1) (S 1).toNat ρ) (top := top) hS hC2 i2 (fun j hj => b2 j (by omega)) (rng_of hS (fun j _ => by have := dg_b (B := top + 1) (n := (S 1).toNat) (ρ := ρ) (i := j) (by omega) (by omega); omega)) (by omega) (fun M3 o3 i3 => ⟨_, rfl, ?_⟩)
      have b3 : ∀ j, j < 7 → M3.1 6 0 2 j = iz (dg (top + 1) (S 1).toNat ρ j) := fun j hj => (o3.1 _ _ _ _ (by unfold cRp; omega)).trans (b2 j hj)
      have o13 : Off cTn M M3 := o2.tr (o3.wk (fun c t f i q => by unfold cRp at q; unfold cTn; omega))
      have hC3 := hC.off o13 (by intro f i; unfold cTn; omega)
      have nxt : ∀ (K : Nat), crt S top (ρ + 1) = K → K ≤ k → zEv Γ 96 [zo 6 0 0, zo 7 ts 0, zi (iz (top : Int))] M3 (fun o M4 => ∃ r2, o = some (zi r2) ∧ ((¬ r2 = 0 → zGo Γ 95 Q 30 [some (zo 6 0 0), some (zo 7 ts 0), some (zi (iz (top : Int))), some (zi (iz ((k + 1 : Nat) : Int))), some (zi (iz (K : Int))), some (zi (iz (ρ : Int) + 1))] [] M4) ∧ (r2 = 0 → Q (some (zi (iz (K : Int)))) M4))) := by
        intro K hK hKk
        have hz := (rws_lt (B := top + 1) (ρ := ρ) (n := (S 1).toNat) (by omega)).mp hρ
        refine c_nextRow hS hC3 htop b3 (fun M4 o4 hq => ⟨_, rfl, fun q => absurd rfl q, fun _ => ?_⟩) (fun M4 o4 hq b4 => ⟨_, rfl, fun _ => ?_, fun q => absurd q (by decide)⟩)
        · have hne : ¬ (ρ + 1 < rwS S top) := fun z => by
            have := (rws_lt (B := top + 1) (ρ := ρ + 1) (n := (S 1).toNat) (by omega)).mp z
            omega
          have e : rwS S top = ρ + 1 := by omega
          refine h M4 K (fun j => if j = 0 then M4.1 6 0 2 0 |>.toInt else (M4.1 6 0 2 j).toInt) (o13.tr (o4.wk (fun c t f i q => by unfold cTn; omega))) (i3.off o4 (by intro f i; omega)) (by omega) (fun j hj => ?_) (Or.inr ⟨by rw [e]; omega, by rw [e]; omega⟩)
          by_cases z : j = 0
          · rw [if_pos z, z, iz_of]
          · rw [if_neg z, iz_of]
        · have hlt : ρ + 1 < rwS S top := (rws_lt (by omega)).mpr (by omega)
          have := ih M4 ⟨o13.tr (o4.wk (fun c t f i q => by unfold cTn; omega)), i3.off o4 (by intro f i; omega), b4, by omega, hlt⟩
          rw [iz_s]
          rw [hK] at this
          exact this
      cases hr : fnd (rstl S (dg (top + 1) (S 1).toNat ρ) top) 0 (S 1).toNat with
      | some j =>
        have hir : ¬ isR S top ρ = true := by unfold isR; rw [hr]; simp
        refine ⟨fun _ => ⟨fun q => ?_, fun _ => nxt _ (crt_n hir) hc⟩, fun q => ?_⟩
        · rw [iz_le (by omega) (by omega) (by omega) (by omega)] at q
          omega
        · have := fnd_lt _ _ _ hr
          have q : iz (j : Int) = iz (-1) := q
          rw [iz_eq (by omega) (by omega) (by omega) (by omega)] at q
          omega
      | none =>
        have hir : isR S top ρ = true := by unfold isR; rw [hr]; rfl
        refine ⟨fun q => absurd rfl q, fun _ => ?_⟩
        rw [iz_s]
        refine ⟨fun q => ?_, fun q => nxt _ (crt_s hir) ?_⟩
        · rw [iz_le (by omega) (by omega) (by omega) (by omega)] at q
          exact h M3 _ _ o13 i3 (by omega) b3 (Or.inl ⟨ρ, hρ, hir, by omega, by omega, fun i _ => rfl⟩)
        · rw [iz_le (by omega) (by omega) (by omega) (by omega)] at q
          omega
    · rw [b1 j hj]
      congr 1
      unfold dg
      have e : ∀ m, qu (top + 1) 0 m = 0 := by
        intro m
        induction m with
        | zero => rfl
        | succ m ihm => rw [qu, ihm]; exact Nat.zero_div _
      rw [e]
      simp
  · rintro i M1 hi ⟨o1, i1, b1⟩ ih
    refine bk_95_3 ⟨fun q => ?_, fun _ => ⟨iz_inN (by omega) (by omega), ?_⟩⟩
    · rw [show (7 : Int32) = iz 7 from rfl, iz_le (by omega) (by omega) (by omega) (by omega)] at q
      omega
    rw [iz_clN (by omega), iz_s]
    refine ih _ ⟨o1.w _ (by unfold cTn; omega), i1.off (Off.w (P := fun c _ _ _ => c = 6) (Off.rf M1) _ rfl) (by intro f i q; omega), fun j hj => ?_⟩
    by_cases z : j = i
    · rw [z, zw_eq]; rfl
    · rw [zw_ne (by omega)]; exact b1 j (by omega)
theorem c_isFewN {y : Int32} (h : Q (some (zi 0)) M) : zEv Γ 151 [zn, zi y] M Q := zev_in rfl rfl (zgo 17 [] rfl (tb := ztb151) rfl ⟨Or.inl rfl, h⟩)
theorem c_isFew {y : Int32} (hS : SOK S) (hC : cS M ts S) (hf : ¬ fewOk S y → Q (some (zi 0)) M) (ht : fewOk S y → Q (some (zi 1)) M) : zEv Γ 151 [zo 7 ts 0, zi y] M Q := by
  have h7 := hS.2.1
  obtain ⟨w, hw1, hw2, rfl⟩ := iz_ex y
  unfold fewOk at hf ht
  rw [iz_toInt (by omega) (by omega)] at hf ht
  refine en_151 (bk_151_0 ?_)
  rw [hC.1 1 (by omega), show (4 : Int32) = iz 4 from rfl, show (5 : Int32) = iz 5 from rfl, iz_lt (by omega) (by omega) (by omega) (by omega), show (iz w < 0) = (w < 0) by rw [iz0, iz_lt (by omega) (by omega) (by omega) (by omega)], iz_lt (by omega) (by omega) (by omega) (by omega)]
  exact ⟨fun q => ⟨Or.inl rfl, hf (by omega)⟩, fun q => ⟨fun q => ⟨Or.inl rfl, hf (by omega)⟩, fun q => ⟨fun q => ⟨Or.inl rfl, hf (by omega)⟩, fun q => ⟨Or.inr rfl, ht (by omega)⟩⟩⟩⟩
theorem few_top {y : Int32} (h : fewOk S y) : y.toInt.toNat ≤ 5 ∧ y = iz ((y.toInt.toNat : Nat) : Int) := by
  unfold fewOk at h
  refine ⟨by omega, ?_⟩
  rw [show ((y.toInt.toNat : Nat) : Int) = y.toInt by omega]
  exact (iz_of y).symm
theorem c_rests {x y : Int32} (hW : cW M cnt SS) (hI : ∀ t, t < 4 → lI M t) (h : ∀ M', Kp M M' → Q (some (zi (iz (fS cnt SS x (fun S => gRests S y) (-1))))) M') : zEv Γ 123 [zo 9 0 0, zi x, zi y] M Q := by
  refine en_123 (bk_123_0 (c_saleAt hW (fun q => Or.inl ⟨rfl, c_isFewN ⟨_, rfl, fun _ => ?_, fun q => absurd rfl q⟩⟩) (fun s hs hx => Or.inr ⟨s, rfl, ?_⟩)))
  · have := h M (Kp.rf M)
    rw [fS_out q] at this
    exact this
  · obtain ⟨hC, hS⟩ := hW.2.2 s hs
    have h7 := hS.2.1
    rw [fS_in hs hW.2.1 hx] at h
    unfold gRests at h
    refine c_isFew hS hC (fun q => ⟨_, rfl, fun _ => ?_, fun q => absurd rfl q⟩) (fun q => ⟨_, rfl, fun q => absurd q (by decide), fun _ => ?_⟩)
    · have := h M (Kp.rf M)
      rw [if_neg q] at this
      exact this
    · rw [if_pos q] at h
      obtain ⟨ht, hy⟩ := few_top q
      have q1 := q.1
      revert h
      generalize y.toInt.toNat = top at ht hy
      subst hy
      intro h
      refine c_seekRests (k := 1295) hS hC (hI 1 (by omega)) q1 ht (by omega) (fun M1 f g o1 i1 hf6 hg hR => ⟨_, rfl, ?_⟩)
      have := h M1 (Kp.of1 o1 (fun c t f i q => by unfold cTn at q; omega) i1)
      have hrw : rwS (SS s) top ≤ 1296 := rws_le (by omega) (by omega) (by omega)
      have e : f = crt (SS s) top (rwS (SS s) top) := by
        rcases hR with ⟨ρ, r1, r2, r3, r4, r5⟩ | ⟨r1, r2⟩
        · have c1 := crt_s r2
          have c2 := crt_mono (S := SS s) (top := top) (rwS (SS s) top - (ρ + 1)) (ρ + 1)
          rw [show ρ + 1 + (rwS (SS s) top - (ρ + 1)) = rwS (SS s) top by omega] at c2
          have c3 := crt_le (S := SS s) (top := top) (rwS (SS s) top)
          omega
        · exact r2
      rw [e]
      exact this
theorem c_rest {x y k i : Int32} (hW : cW M cnt SS) (hI : ∀ t, t < 4 → lI M t) (h : ∀ M', Kp M M' → Q (some (zi (iz (fS cnt SS x (fun S => gRest S y k i) (-1))))) M') : zEv Γ 124 [zo 9 0 0, zi x, zi y, zi k, zi i] M Q := by
  refine en_124 (bk_124_0 (c_saleAt hW (fun q => Or.inl ⟨rfl, ?_⟩) (fun s hs hx => Or.inr ⟨s, rfl, ?_⟩)))
  · have := h M (Kp.rf M)
    rw [fS_out q] at this
    exact this
  · obtain ⟨hC, hS⟩ := hW.2.2 s hs
    have h7 := hS.2.1
    rw [fS_in hs hW.2.1 hx] at h
    unfold gRest at h
    refine c_isFew hS hC (fun q => ⟨_, rfl, fun _ => ?_, fun q => absurd rfl q⟩) (fun q => ⟨_, rfl, fun q => absurd q (by decide), fun _ => ?_⟩)
    · have := h M (Kp.rf M)
      rw [if_neg (fun z => q z.1)] at this
      exact this
    · refine c_hasBidder hS hC (fun q2 => ⟨_, rfl, fun _ => ?_, fun q => absurd rfl q⟩) (fun j hj hy => ⟨_, rfl, fun q => absurd q (by decide), fun _ => ?_⟩)
      · have := h M (Kp.rf M)
        rw [if_neg (by omega)] at this
        exact this
      subst hy
      obtain ⟨ht, hy⟩ := few_top q
      have q1 := q.1
      rw [iz_toInt (by omega) (by omega), show ((j : Int).toNat) = j by omega] at h
      obtain ⟨κ, hk1, hk2, rfl⟩ := iz_ex k
      rw [iz_toInt (by omega) (by omega)] at h
      rw [show (iz κ < 0) = (κ < 0) by rw [iz0, iz_lt (by omega) (by omega) (by omega) (by omega)], show (1296 : Int32) = iz 1296 from rfl, iz_lt (by omega) (by omega) (by omega) (by omega)]
      refine ⟨fun q2 => ?_, fun q2 => ⟨fun q3 => ?_, fun q3 => ?_⟩⟩
      · have := h M (Kp.rf M)
        rw [if_neg (by omega)] at this
        exact this
      · rw [if_pos ⟨q, by omega, by omega⟩] at h
        revert h
        generalize y.toInt.toNat = top at ht hy
        subst hy
        intro h
        rw [iz1, iz_add, show κ + 1 = ((κ.toNat + 1 : Nat) : Int) by omega]
        refine c_seekRests (k := κ.toNat) hS hC (hI 1 (by omega)) q1 ht (by omega) (fun M1 f g o1 i1 hf6 hg hR => ⟨_, rfl, ?_⟩)
        have h := h M1 (Kp.of1 o1 (fun c t f i q => by unfold cTn at q; omega) i1)
        rw [iz_eq (by omega) (by omega) (by omega) (by omega)]
        rcases hR with ⟨ρ, r1, r2, r3, r4, r5⟩ | ⟨r1, r2⟩
        · rw [nthR_some r1 r2 r3] at h
          refine ⟨fun z => absurd (by omega) z, fun _ => ⟨iz_inN (by omega) (by omega), ?_⟩⟩
          rw [iz_clN (by omega), hg j (by omega), r5 j (by omega)]
          exact h
        · rw [nthR_none r1] at h
          exact ⟨fun _ => h, fun z => by omega⟩
      · have h := h M (Kp.rf M)
        rw [if_pos ⟨q, by omega, by omega⟩, nthR_none ?_] at h
        · exact h
        · have hrw : rwS (SS s) y.toInt.toNat ≤ 1296 := rws_le (by omega) (by omega) (by omega)
          have c3 := crt_le (S := SS s) (top := y.toInt.toNat) (rwS (SS s) y.toInt.toNat)
          omega
end Z53
