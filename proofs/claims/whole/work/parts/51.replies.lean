/-! loops; replies: turns of replies -/
theorem zloop {P G : Nat → zM → Prop} {n : Nat} (fin : ∀ M, P n M → G n M) (step : ∀ i M, i < n → P i M → (∀ M', P (i + 1) M' → G (i + 1) M') → G i M) : ∀ (d i : Nat) (M : zM), i + d = n → P i M → G i M
  | 0, i, M, h, hp => by
    have e : i = n := by omega
    subst e
    exact fin M hp
  | d + 1, i, M, h, hp => step i M (by omega) hp (fun M' hp' => zloop fin step d (i + 1) M' (by omega) hp')
theorem nloop {G : Nat → Prop} {n : Nat} (fin : G n) (step : ∀ i, i < n → G (i + 1) → G i) : ∀ (d i : Nat), i + d = n → G i
  | 0, i, h => by
    have e : i = n := by omega
    subst e
    exact fin
  | d + 1, i, h => step i (by omega) (nloop fin step d (i + 1) (by omega))
def trn (S : SB) (bd : Nat → Int) : Nat → Nat → Int
  | 0 => bd
  | i + 1 => if rstl S (trn S bd i) 99 i = true then updB (trn S bd i) i ((rep S (trn S bd i) i 99 : Nat) : Int) else trn S bd i
def trnS (S : SB) (bd : Nat → Int) : Nat → Bool
  | 0 => false
  | i + 1 => if rstl S (trn S bd i) 99 i = true then true else trnS S bd i
def tB (S : SB) : Nat → Nat → Int
  | 0 => bdS S
  | r + 1 => trn S (tB S r) (S 1).toNat
def smb (a b : Nat → Int) (n : Nat) : Bool := decide (∀ k, k < n → a k = b k)
def tE (S : SB) : Nat → Int
  | 0 => 0
  | r + 1 => if trnS S (tB S r) (S 1).toNat = true then (if (fnd (fun r' => smb (tB S r') (tB S (r + 1)) 7) 0 (r + 1)).isSome = true then 2 else 0) else 1
def stp (S : SB) : Nat → Nat → Nat
  | r, 0 => r
  | r, d + 1 => if tE S r = 0 then stp S (r + 1) d else r
theorem rep_le (S : SB) (bd : Nat → Int) (i top : Nat) : rep S bd i top ≤ top := amx_le _
theorem trn_o {S : SB} {bd : Nat → Int} : ∀ (i k : Nat), i ≤ k → trn S bd i k = bd k
  | 0, _, _ => rfl
  | i + 1, k, h => by
    rw [trn]
    split
    · rw [updB_ne (by omega)]; exact trn_o i k (by omega)
    · exact trn_o i k (by omega)
theorem trn_b {S : SB} {bd : Nat → Int} {m : Nat} (h : ∀ k, k < m → 0 ≤ bd k ∧ bd k ≤ 99) : ∀ (i k : Nat), k < m → 0 ≤ trn S bd i k ∧ trn S bd i k ≤ 99
  | 0, k, hk => h k hk
  | i + 1, k, hk => by
    rw [trn]
    split
    · by_cases e : k = i
      · subst e
        rw [updB_eq]
        have := rep_le S (trn S bd k) k 99
        omega
      · rw [updB_ne e]; exact trn_b h i k hk
    · exact trn_b h i k hk
theorem tB_b {S : SB} (hS : SOK S) : ∀ (r k : Nat), k < 7 → 0 ≤ tB S r k ∧ tB S r k ≤ 99
  | 0, k, hk => hS.2.2.2.2.2.2.1 k hk
  | r + 1, k, hk => trn_b (fun k hk => tB_b hS r k hk) _ k hk
theorem rng_of {S : SB} {bd : Nat → Int} (hS : SOK S) (h : ∀ k, k < 7 → 0 ≤ bd k ∧ bd k ≤ 99) : rng (S 1).toNat bd (mkS S) := fun i hi => ⟨h i (by have := hS.2.1; omega), hS.2.2.2.2.2.2.2.1 i (by have := hS.2.1; omega)⟩
theorem tB_o {S : SB} : ∀ (r k : Nat), (S 1).toNat ≤ k → tB S r k = bdS S k
  | 0, _, _ => rfl
  | r + 1, k, hk => (trn_o _ k hk).trans (tB_o r k hk)
theorem smb_7 {S : SB} (hS : SOK S) (r r' : Nat) : smb (tB S r) (tB S r') 7 = smb (tB S r) (tB S r') (S 1).toNat := by
  have h7 := hS.2.1
  unfold smb
  refine decide_eq_decide.mpr ⟨fun h k hk => h k (by omega), fun h k hk => ?_⟩
  by_cases q : k < (S 1).toNat
  · exact h k q
  · rw [tB_o r k (by omega), tB_o r' k (by omega)]
theorem tE_b (S : SB) (r : Nat) : 0 ≤ tE S r ∧ tE S r ≤ 2 := by
  cases r with
  | zero => simp [tE]
  | succ r => rw [tE]; split <;> (try split) <;> omega
theorem stp_le {S : SB} : ∀ (d r : Nat), r ≤ stp S r d ∧ stp S r d ≤ r + d
  | 0, r => by simp [stp]
  | d + 1, r => by
    rw [stp]
    have := stp_le (S := S) d (r + 1)
    split <;> omega
def gReplies (S : SB) (w : Int32) : Int := if w.toInt = 0 then ((stp S 0 40 : Nat) : Int) else if w.toInt = 1 then tE S (stp S 0 40) else if 10 ≤ w.toInt ∧ w.toInt - 10 < S 1 then tB S (stp S 0 40) (w.toInt - 10).toNat else -1
def cTn (c t f i : Nat) : Prop := (c = 2 ∧ t = 1) ∨ (c = 6 ∧ t = 0 ∧ (f = 0 ∧ i = 3 ∨ f = 2))
def cTt (c t f i : Nat) : Prop := (c = 2 ∧ t = 1) ∨ (c = 6 ∧ t = 0)
theorem Kp.of1 {P : Nat → Nat → Nat → Nat → Prop} {M M' : zM} (h : Off P M M') (hP : ∀ c t f i, P c t f i → (c = 2 ∧ t = 1) ∨ (c < 7 ∧ c ≠ 2)) (hi : lI M' 1) : Kp M M' := by
  refine ⟨fun c t' f i hp => h.1 c t' f i (fun q => ?_), fun hl t' ht => ?_⟩
  · have := hP _ _ _ _ q
    unfold Pst at hp
    omega
  · by_cases e : t' = 1
    · rw [e]; exact hi
    · exact ⟨(h.1 _ _ _ _ (fun q => by have := hP _ _ _ _ q; omega)).trans (hl t' ht).1, fun k h1 h2 => (h.1 _ _ _ _ (fun q => by have := hP _ _ _ _ q; omega)).trans ((hl t' ht).2 k h1 h2)⟩
section Z51
variable {Γ : zC} {Q : zQ} {M : zM} {b cnt t ts : Nat} {S : SB} {SS : Nat → SB} {bd : Nat → Int}
theorem lI.off {P : Nat → Nat → Nat → Nat → Prop} {M M' : zM} (h : lI M t) (ho : Off P M M') (hP : ∀ f i, ¬ P 2 t f i) : lI M' t := ⟨(ho.1 _ _ _ _ (hP _ _)).trans h.1, fun k h1 h2 => (ho.1 _ _ _ _ (hP _ _)).trans (h.2 k h1 h2)⟩
theorem c_somebody (hS : SOK S) (hC : cS M ts S) (hI : lI M 1) (hbd : ∀ k, k < 7 → M.1 6 0 2 k = iz (bd k)) (hr : ∀ k, k < 7 → 0 ≤ bd k ∧ bd k ≤ 99)
    (h : ∀ M', Off cTn M M' → lI M' 1 → (∀ k, k < 7 → M'.1 6 0 2 k = iz (trn S bd (S 1).toNat k)) → Q (some (zi (iz (if trnS S bd (S 1).toNat = true then 1 else 0)))) M') : zEv Γ 93 [zo 6 0 0, zo 7 ts 0] M Q := by
  have h7 := hS.2.1
  refine en_93 (bk_93_0 (zloop (P := fun i M1 => Off cTn M M1 ∧ lI M1 1 ∧ ∀ k, k < 7 → M1.1 6 0 2 k = iz (trn S bd i k)) (G := fun i M1 => zGo Γ 93 Q 4 [some (zo 6 0 0), some (zo 7 ts 0), some (zi (iz (if trnS S bd i = true then 1 else 0))), some (zi (iz (i : Int)))] [] M1) (n := (S 1).toNat) ?_ ?_ (S 1).toNat 0 M (by omega) ⟨Off.rf M, hI, hbd⟩))
  · rintro M1 ⟨o1, i1, b1⟩
    have hC1 := hC.off o1 (by intro f i; unfold cTn; omega)
    refine bk_93_4 ⟨fun _ => ⟨?_, h M1 o1 i1 b1⟩, fun q => ?_⟩
    · split
      · exact Or.inr rfl
      · exact Or.inl rfl
    · rw [hC1.1 1 (by omega), iz_le (by omega) (by omega) (by omega) (by omega)] at q
      omega
  · rintro i M1 hi ⟨o1, i1, b1⟩ ih
    have hC1 := hC.off o1 (by intro f i; unfold cTn; omega)
    refine bk_93_4 ⟨fun q => ?_, fun _ => ?_⟩
    · rw [hC1.1 1 (by omega), iz_le (by omega) (by omega) (by omega) (by omega)] at q
      omega
    refine c_seek (bd := trn S bd i) (top := 99) hS hC1 i1 (fun k hk => b1 k (by omega)) (rng_of hS (fun k hk => trn_b hr i k hk)) (by omega) (by omega) (fun M2 o2 i2 hrep => ⟨_, rfl, ?_⟩)
    have b2 : ∀ k, k < 7 → M2.1 6 0 2 k = iz (trn S bd i k) := fun k hk => (o2.1 _ _ _ _ (by unfold cRp; omega)).trans (b1 k hk)
    have o3 : Off cTn M M2 := o1.tr (o2.wk (fun c t f i q => by unfold cRp at q; unfold cTn; omega))
    rw [iz_s]
    cases hg : rstl S (trn S bd i) 99 i with
    | false =>
      have e1 : trn S bd (i + 1) = trn S bd i := by rw [trn, if_neg (by rw [hg]; decide)]
      have e2 : trnS S bd (i + 1) = trnS S bd i := by rw [trnS, if_neg (by rw [hg]; decide)]
      refine ⟨fun _ => ?_, fun q => absurd rfl q⟩
      have := ih M2 ⟨o3, i2, by rw [e1]; exact b2⟩
      rw [e2] at this
      exact this
    | true =>
      have e1 : trn S bd (i + 1) = updB (trn S bd i) i ((rep S (trn S bd i) i 99 : Nat) : Int) := by rw [trn, if_pos hg]
      have e2 : trnS S bd (i + 1) = true := by rw [trnS, if_pos hg]
      refine ⟨fun q => absurd q (by decide), fun _ => ⟨iz_inN (by omega) (by omega), ?_⟩⟩
      have := ih (zw M2 6 0 2 (iz (i : Int)).toNatClampNeg (M2.1 6 0 0 3)) ⟨o3.w _ (by unfold cTn; omega), i2.off (Off.w (P := fun c _ _ _ => c = 6) (Off.rf M2) _ rfl) (by intro f i q; omega), fun k hk => ?_⟩
      · rw [e2] at this
        exact this
      · rw [zw_get, iz_clN (by omega), e1]
        by_cases e : k = i
        · rw [if_pos ⟨rfl, rfl, rfl, e⟩, hrep, e, updB_eq]
        · rw [if_neg (by omega), updB_ne e]; exact b2 k hk
theorem c_isAs {R : Nat} {B : Nat → Nat → Int} (hR : M.1 6 0 0 4 = iz (R : Int)) (hR4 : R ≤ 40) (hp : ∀ r k, r < R → k < 7 → M.1 6 0 3 (7 * r + k) = iz (B r k)) (hb : ∀ k, k < 7 → M.1 6 0 2 k = iz (bd k)) (hB : ∀ r k, k < 7 → 0 ≤ B r k ∧ B r k ≤ 99) (hbd : ∀ k, k < 7 → 0 ≤ bd k ∧ bd k ≤ 99) (h : Q (some (zi (iz (if (fnd (fun r => smb (B r) bd 7) 0 R).isSome = true then 1 else 0)))) M) : zEv Γ 94 [zo 6 0 0] M Q := by
  refine en_94 (bk_94_0 (nloop (G := fun r => fnd (fun r => smb (B r) bd 7) 0 R = fnd (fun r => smb (B r) bd 7) r (R - r) → zGo Γ 94 Q 2 [some (zo 6 0 0), some (zi (iz (r : Int))), none] [] M) (n := R) (fun e => ?_) (fun r hr ih e => ?_) R 0 (by omega) rfl))
  · rw [e, show R - R = 0 by omega, fnd] at h
    refine bk_94_2 ⟨fun _ => ⟨Or.inl rfl, h⟩, fun q => ?_⟩
    rw [hR, iz_le (by omega) (by omega) (by omega) (by omega)] at q
    omega
  · refine bk_94_2 ⟨fun q => ?_, fun _ => ⟨fun q => ?_, fun _ => ?_⟩⟩
    · rw [hR, iz_le (by omega) (by omega) (by omega) (by omega)] at q
      omega
    · rw [show (40 : Int32) = iz 40 from rfl, iz_le (by omega) (by omega) (by omega) (by omega)] at q
      omega
    rw [show R - r = (R - (r + 1)) + 1 by omega, fnd] at e
    refine nloop (G := fun k => (∀ k', k' < k → B r k' = bd k') → zGo Γ 94 Q 18 [some (zo 6 0 0), some (zi (iz (r : Int))), some (zi (iz (k : Int)))] [] M) (n := 7) (fun hk => ?_) (fun k hk7 ihk hk => ?_) 7 0 (by omega) (fun k hk => by omega)
    · rw [if_pos (by unfold smb; rw [decide_eq_true_iff]; exact hk)] at e
      rw [e] at h
      exact bk_94_18 ⟨fun _ => ⟨fun q => absurd rfl q, fun _ => ⟨Or.inr rfl, h⟩⟩, fun q => absurd (by decide) q⟩
    · refine bk_94_18 ⟨fun q => ?_, fun _ => ?_⟩
      · rw [show (7 : Int32) = iz 7 from rfl, iz_le (by omega) (by omega) (by omega) (by omega)] at q
        omega
      have b1 := hB r k hk7
      have b2 := hbd k hk7
      rw [show iz (r : Int) * 7 + iz (k : Int) = iz ((7 * r + k : Nat) : Int) by rw [show (7 : Int32) = iz 7 from rfl, iz_mul, iz_add]; congr 1; omega, iz_clN (by omega), iz_clN (by omega), hp r k hr hk7, hb k hk7, iz_eq (by omega) (by omega) (by omega) (by omega), iz_s, iz_s]
      refine ⟨iz_inN (by omega) (by omega), iz_inN (by omega) (by omega), fun q => ⟨fun _ => ih ?_, fun q7 => ?_⟩, fun q => ihk (fun k' hk' => ?_)⟩
      · rw [if_neg (by unfold smb; rw [decide_eq_true_iff]; exact fun z => q (z k hk7))] at e
        exact e
      · rw [show (7 : Int32) = iz 7 from rfl, iz_eq (by omega) (by omega) (by omega) (by omega)] at q7
        omega
      · by_cases z : k' = k
        · rw [z]; exact q
        · exact hk k' (by omega)
theorem c_takeTurns (hS : SOK S) (hC : cS M ts S) (hI : lI M 1)
    (h : ∀ M', Off cTt M M' → lI M' 1 → M'.1 6 0 0 4 = iz ((stp S 0 40 : Nat) : Int) → M'.1 6 0 0 5 = iz (tE S (stp S 0 40)) → (∀ k, k < 7 → M'.1 6 0 2 k = iz (tB S (stp S 0 40) k)) → Q none M') : zEv Γ 92 [zo 6 0 0, zo 7 ts 0] M Q := by
  have h7 := hS.2.1
  refine en_92 (bk_92_0 (c_lookAt (fun M0 o0 hb0 => ⟨rfl, ?_⟩)))
  refine zloop (P := fun r M1 => Off cTt M M1 ∧ lI M1 1 ∧ M1.1 6 0 0 4 = iz (r : Int) ∧ M1.1 6 0 0 5 = iz (tE S r) ∧ (∀ k, k < 7 → M1.1 6 0 2 k = iz (tB S r k)) ∧ (∀ r' k, r' < r → k < 7 → M1.1 6 0 3 (7 * r' + k) = iz (tB S r' k)) ∧ stp S r (40 - r) = stp S 0 40) (G := fun r M1 => zGo Γ 92 Q 15 [some (zo 6 0 0), some (zo 7 ts 0)] [] M1) (n := 40) ?_ ?_ 40 0 _ (by omega) ⟨?_, ?_, rfl, rfl, fun k hk => ?_, fun r' k hr => by omega, rfl⟩
  · rintro M1 ⟨o1, i1, h4, h5, hb, hp, hst⟩
    have hst : 40 = stp S 0 40 := hst
    rw [hst] at h4 h5
    have fin := h M1 o1 i1 h4 h5 (by rw [hst] at hb; exact hb)
    refine bk_92_15 ⟨fun _ => fin, fun _ => ⟨fun _ => fin, fun q => ?_⟩⟩
    rw [h4, ← hst] at q
    exact absurd (by decide) q
  · rintro r M1 hr ⟨o1, i1, h4, h5, hb, hp, hst⟩ ih
    have tb := tE_b S r
    rw [show 40 - r = (40 - (r + 1)) + 1 by omega, stp] at hst
    by_cases hE : tE S r = 0
    · rw [if_pos hE] at hst
      have cc : ((M1.1 6 0 0 4 * 7)) = iz ((7 * r : Nat) : Int) := by
        rw [h4, show (7 : Int32) = iz 7 from rfl, iz_mul]; congr 1; omega
      have n7 : (7 : Int32).toNatClampNeg = 7 := rfl
      have n0 : (0 : Int32).toNatClampNeg = 0 := rfl
      refine bk_92_15 ⟨fun q => ?_, fun _ => ⟨fun q => ?_, fun _ => ⟨by decide, ?_, by decide, by decide, ?_, ?_⟩⟩⟩
      · rw [h5, hE] at q
        exact absurd rfl q
      · rw [h4, show (40 : Int32) = iz 40 from rfl, iz_le (by omega) (by omega) (by omega) (by omega)] at q
        omega
      · rw [cc, iz0, iz_lt (by omega) (by omega) (by omega) (by omega)]
        omega
      · rw [cc, iz_clN (by omega), n7]
        omega
      rw [cc, iz_clN (by omega), n7, n0]
      have M2d : ∃ M2, M2 = zw (zcp M1 6 0 2 6 0 3 0 (7 * r) 7) 6 0 0 4 ((zcp M1 6 0 2 6 0 3 0 (7 * r) 7).1 6 0 0 4 + 1) := ⟨_, rfl⟩
      obtain ⟨M2, e2⟩ := M2d
      rw [← e2]
      have o2 : Off (fun c t f i => c = 6 ∧ t = 0 ∧ (f = 0 ∧ i = 4 ∨ f = 3)) M1 M2 := by
        rw [e2]
        exact (Off.cp (Off.rf M1) (fun i => by omega)).w _ (by omega)
      have h42 : M2.1 6 0 0 4 = iz ((r + 1 : Nat) : Int) := by
        rw [e2, zw_get, if_pos ⟨rfl, rfl, rfl, rfl⟩, zcp_get, if_neg (by omega), h4, iz_s]
      have hp2 : ∀ r' k, r' < r + 1 → k < 7 → M2.1 6 0 3 (7 * r' + k) = iz (tB S r' k) := by
        intro r' k hr' hk
        rw [e2, zw_get, if_neg (by omega), zcp_get, if_pos ⟨rfl, rfl, rfl⟩]
        unfold va_cpy
        by_cases z : r' = r
        · rw [if_pos (by omega), z, show 0 + (7 * r + k - 7 * r) = k by omega]
          exact hb k hk
        · rw [if_neg (by omega)]
          exact hp r' k (by omega) hk
      have o12 : Off cTt M M2 := o1.tr (o2.wk (fun c t f i q => by unfold cTt; omega))
      refine c_somebody (bd := tB S r) hS (hC.off o12 (by intro f i; unfold cTt; omega)) (i1.off o2 (by intro f i; omega)) (fun k hk => (o2.1 _ _ _ _ (by omega)).trans (hb k hk)) (fun k hk => tB_b hS r k hk) (fun M3 o3 i3 hb3 => ⟨_, rfl, ?_⟩)
      have hb3 : ∀ k, k < 7 → M3.1 6 0 2 k = iz (tB S (r + 1) k) := hb3
      have h43 : M3.1 6 0 0 4 = iz ((r + 1 : Nat) : Int) := (o3.1 _ _ _ _ (by unfold cTn; omega)).trans h42
      have h53 : M3.1 6 0 0 5 = iz (tE S r) := (o3.1 _ _ _ _ (by unfold cTn; omega)).trans ((o2.1 _ _ _ _ (by omega)).trans h5)
      have hp3 : ∀ r' k, r' < r + 1 → k < 7 → M3.1 6 0 3 (7 * r' + k) = iz (tB S r' k) := fun r' k hr' hk => (o3.1 _ _ _ _ (by unfold cTn; omega)).trans (hp2 r' k hr' hk)
      have o13 : Off cTt M M3 := o12.tr (o3.wk (fun c t f i q => by unfold cTn at q; unfold cTt; omega))
      have nx : ∀ x : Int, x = tE S (r + 1) → zGo Γ 92 Q 15 [some (zo 6 0 0), some (zo 7 ts 0)] [] (zw M3 6 0 0 5 (iz x)) := fun x hx => ih _ ⟨o13.w _ (by unfold cTt; omega), i3.off (Off.w (P := fun c _ _ _ => c = 6) (Off.rf M3) _ rfl) (by intro f i q; omega), by rw [zw_get, if_neg (by omega)]; exact h43, by rw [zw_get, if_pos ⟨rfl, rfl, rfl, rfl⟩, hx], fun k hk => by rw [zw_get, if_neg (by omega)]; exact hb3 k hk, fun r' k hr' hk => by rw [zw_get, if_neg (by omega)]; exact hp3 r' k hr' hk, hst⟩
      cases hg : trnS S (tB S r) (S 1).toNat with
      | false =>
        exact ⟨fun q => absurd rfl q, fun _ => nx 1 (by rw [tE, if_neg (by rw [hg]; decide)])⟩
      | true =>
        refine ⟨fun _ => ?_, fun q => absurd q (by decide)⟩
        refine c_isAs (R := r + 1) (B := tB S) (bd := tB S (r + 1)) h43 (by omega) hp3 hb3 (fun r k hk => tB_b hS r k hk) (fun k hk => tB_b hS _ k hk) ⟨_, rfl, ?_⟩
        by_cases hf : (fnd (fun r' => smb (tB S r') (tB S (r + 1)) 7) 0 (r + 1)).isSome = true
        · rw [if_pos hf]
          exact ⟨fun q => absurd q (by decide), fun _ => nx 2 (by rw [tE, if_pos hg, if_pos hf])⟩
        · rw [if_neg hf]
          refine ⟨fun _ => ih _ ⟨o13, i3, h43, ?_, hb3, hp3, hst⟩, fun q => absurd rfl q⟩
          rw [h53, hE, tE, if_pos hg, if_neg hf]
    · rw [if_neg hE] at hst
      rw [hst] at h4 h5 hb
      have fin := h M1 o1 i1 h4 h5 hb
      refine bk_92_15 ⟨fun _ => fin, fun q => ?_⟩
      rw [h5, ← hst, iz0, iz_eq (by omega) (by omega) (by omega) (by omega)] at q
      omega
  · exact ((o0.wk (fun c t f i q => by unfold cTt; omega)).w _ (by unfold cTt; omega)).w _ (by unfold cTt; omega)
  · exact (hI.off o0 (by intro f i; omega)).off ((Off.w (P := fun c _ _ _ => c = 6) (Off.rf M0) _ rfl).w _ rfl) (by intro f i q; omega)
  · rw [zw_get, if_neg (by omega), zw_get, if_neg (by omega), hb0 k hk]
    exact hC.2.2.2.2.1 k hk
theorem c_behind {w f m : Int} (hw : -2147483648 ≤ w ∧ w < 2147483648) (hf : 0 ≤ f ∧ f ≤ 100) (hm : 0 ≤ m ∧ m ≤ 100) (h : Q (some (zi (iz (if f ≤ w ∧ w - f < m then w - f else -1)))) M) : zEv Γ 153 [zi (iz w), zi (iz f), zi (iz m)] M Q := by
  refine en_153 (bk_153_0 ?_)
  rw [iz_lt (by omega) (by omega) (by omega) (by omega), iz_sub]
  refine ⟨fun q => ?_, fun q => ?_⟩
  · rw [if_neg (by omega)] at h
    exact h
  · rw [iz_le (by omega) (by omega) (by omega) (by omega)]
    refine ⟨fun q2 => ?_, fun q2 => ?_⟩
    · rw [if_neg (by omega)] at h
      exact h
    · rw [if_pos (by omega)] at h
      exact h
theorem c_replies {x y : Int32} (hW : cW M cnt SS) (hI : ∀ t, t < 4 → lI M t) (h : ∀ M', Kp M M' → Q (some (zi (iz (fS cnt SS x (fun S => gReplies S y) (-1))))) M') : zEv Γ 122 [zo 9 0 0, zi x, zi y] M Q := by
  refine en_122 (bk_122_0 (c_saleAt hW (fun q => Or.inl ⟨rfl, ?_⟩) (fun s hs hx => Or.inr ⟨s, rfl, ?_⟩)))
  · have := h M (Kp.rf M)
    rw [fS_out q] at this
    exact this
  · obtain ⟨hC, hS⟩ := hW.2.2 s hs
    have h7 := hS.2.1
    obtain ⟨w, hw1, hw2, rfl⟩ := iz_ex y
    rw [fS_in hs hW.2.1 hx] at h
    unfold gReplies at h
    rw [iz_toInt (by omega) (by omega)] at h
    rw [hC.1 1 (by omega), show (10 : Int32) = iz 10 from rfl]
    refine c_behind (by omega) (by omega) (by omega) ⟨_, rfl, ?_⟩
    rw [iz_m1, iz0, iz_eq (by omega) (by omega) (by omega) (by omega), iz1, iz_eq (by omega) (by omega) (by omega) (by omega)]
    refine ⟨fun q0 => c_takeTurns hS hC (hI 1 (by omega)) (fun M1 o1 i1 h4 h5 hb => ⟨rfl, fun q => absurd q0 q, fun _ => ?_⟩), fun q0 => ⟨fun q1 => c_takeTurns hS hC (hI 1 (by omega)) (fun M1 o1 i1 h4 h5 hb => ⟨rfl, fun _ => ⟨fun q => absurd q1 q, fun _ => ?_⟩, fun q => absurd q q0⟩), fun q1 => ⟨fun q2 => c_takeTurns hS hC (hI 1 (by omega)) (fun M1 o1 i1 h4 h5 hb => ⟨rfl, fun _ => ⟨fun _ => ?_, fun q => absurd q q1⟩, fun q => absurd q q0⟩), fun q2 => ?_⟩⟩⟩
    · have := h M1 (Kp.of1 o1 (fun c t f i q => by unfold cTt at q; omega) i1)
      rw [if_pos q0] at this
      rw [h4]
      exact this
    · have := h M1 (Kp.of1 o1 (fun c t f i q => by unfold cTt at q; omega) i1)
      rw [if_neg q0, if_pos q1] at this
      rw [h5]
      exact this
    · have := h M1 (Kp.of1 o1 (fun c t f i q => by unfold cTt at q; omega) i1)
      rw [if_neg q0, if_neg q1] at this
      by_cases z : 10 ≤ w ∧ w - 10 < SS s 1
      · rw [if_pos z] at this ⊢
        rw [iz_cl (by omega) (by omega), hb _ (by omega), iz_in (by omega) (by omega)]
        exact ⟨by omega, this⟩
      · rw [if_neg z] at q2
        exact absurd rfl q2
    · have := h M (Kp.rf M)
      rw [if_neg q0, if_neg q1] at this
      by_cases z : 10 ≤ w ∧ w - 10 < SS s 1
      · rw [if_pos z, iz_eq (by omega) (by omega) (by omega) (by omega)] at q2
        omega
      · rw [if_neg z] at this
        exact this
end Z51
