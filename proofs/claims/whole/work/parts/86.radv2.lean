/-! the reference's advance, by tokens -/
def btA (tp : Nat → Int) (n p : Nat) : Int := if p < n then tp p else -1
def rTp (M : zM) (tp : Nat → Int) (n : Nat) : Prop := M.1 10 0 0 2 = iz (n : Int) ∧ n ≤ 500 ∧ ∀ p, p < n → M.1 10 0 1 (10 + p) = iz (tp p) ∧ 0 ≤ tp p ∧ tp p ≤ 255
def rTo (M : zM) (tp : Nat → Int) (n k : Nat) : Prop := M.1 10 0 0 4 = iz ((tkW tp n k : Nat) : Int) ∧ M.1 10 0 0 5 = iz (rtk (tkK tp n k)) ∧ (tkK tp n k = 1 → M.1 10 0 0 6 = iz (tkN tp n k)) ∧ (11 ≤ tkK tp n k → M.1 10 0 0 7 = iz (rwk (tkK tp n k))) ∧ M.1 10 0 0 3 = iz ((tkP tp n (k + 1) : Nat) : Int)
def oAd (c t f i : Nat) : Prop := c = 10 ∧ t = 0 ∧ f = 0 ∧ 3 ≤ i ∧ i ≤ 7
theorem ck_bt {tp : Nat → Int} {n p : Nat} (hb : p < n → 0 ≤ tp p ∧ tp p ≤ 255) : (kc tp n p = 5 ↔ 97 ≤ btA tp n p ∧ btA tp n p ≤ 122) ∧ (kc tp n p = 1 ↔ 48 ≤ btA tp n p ∧ btA tp n p ≤ 57) ∧ (kc tp n p = 4 ↔ btA tp n p = 10 ∨ btA tp n p = 32) ∧ (kc tp n p = 0 ↔ btA tp n p < 0) ∧ (kc tp n p = 2 ↔ btA tp n p = 59) ∧ -1 ≤ btA tp n p ∧ btA tp n p ≤ 255 := by
  unfold kc btA
  by_cases h : p < n
  · have := hb h
    simp only [if_pos h]
    unfold ck
    split
    · omega
    · split
      · omega
      · split
        · omega
        · split <;> omega
  · simp only [if_neg h]
    exact ⟨by omega, by omega, by omega, by first | omega | simp, by omega, by omega, by omega⟩
section Z86
variable {Γ : zC} {Q : zQ} {M : zM} {tp : Nat → Int} {n : Nat}
theorem rTp.off {P : Nat → Nat → Nat → Nat → Prop} {M M' : zM} (h : rTp M tp n) (ho : Off P M M') (h1 : ¬ P 10 0 0 2) (h2 : ∀ p, p < 500 → ¬ P 10 0 1 (10 + p)) : rTp M' tp n := ⟨(ho.1 _ _ _ _ h1).trans h.1, h.2.1, fun p hp => ⟨(ho.1 _ _ _ _ (h2 p (by have := h.2.1; omega))).trans (h.2.2 p hp).1, (h.2.2 p hp).2⟩⟩
theorem r_byteAt {p : Nat} (hT : rTp M tp n) (hp : p ≤ n) (h : Q (some (zi (iz (btA tp n p)))) M) : zEv Γ 157 [zo 10 0 0, zi (iz (p : Int))] M Q := by
  have hn := hT.2.1
  refine en_157 (bk_157_0 ?_)
  unfold btA at h
  rw [hT.1, iz_le (by omega) (by omega) (by omega) (by omega)]
  refine ⟨fun q => ?_, fun q => ?_⟩
  · rw [if_neg (by omega)] at h
    exact h
  · rw [if_pos (by omega)] at h
    rw [show (10 : Int32) = iz 10 from rfl, iz_add, show (10 : Int) + (p : Int) = ((10 + p : Nat) : Int) by omega, iz_clN (by omega), (hT.2.2 p (by omega)).1]
    exact ⟨iz_inN (by omega) (by omega), h⟩
theorem r_isLetter {c : Int} (hc : -1 ≤ c ∧ c ≤ 255) (ht : 97 ≤ c ∧ c ≤ 122 → Q (some (zi 1)) M) (hf : ¬ (97 ≤ c ∧ c ≤ 122) → Q (some (zi 0)) M) : zEv Γ 158 [zi (iz c)] M Q := by
  refine en_158 (bk_158_0 ?_)
  rw [show (97 : Int32) = iz 97 from rfl, show (122 : Int32) = iz 122 from rfl, iz_lt (by omega) (by omega) (by omega) (by omega), iz_lt (by omega) (by omega) (by omega) (by omega)]
  exact ⟨fun q => ⟨Or.inl rfl, hf (by omega)⟩, fun q => ⟨fun q2 => ⟨Or.inl rfl, hf (by omega)⟩, fun q2 => ⟨Or.inr rfl, ht (by omega)⟩⟩⟩
theorem r_isDigit {c : Int} (hc : -1 ≤ c ∧ c ≤ 255) (ht : 48 ≤ c ∧ c ≤ 57 → Q (some (zi 1)) M) (hf : ¬ (48 ≤ c ∧ c ≤ 57) → Q (some (zi 0)) M) : zEv Γ 159 [zi (iz c)] M Q := by
  refine en_159 (bk_159_0 ?_)
  rw [show (48 : Int32) = iz 48 from rfl, show (57 : Int32) = iz 57 from rfl, iz_lt (by omega) (by omega) (by omega) (by omega), iz_lt (by omega) (by omega) (by omega) (by omega)]
  exact ⟨fun q => ⟨Or.inl rfl, hf (by omega)⟩, fun q => ⟨fun q2 => ⟨Or.inl rfl, hf (by omega)⟩, fun q2 => ⟨Or.inr rfl, ht (by omega)⟩⟩⟩
theorem r_advance {k : Nat} (hT : rTp M tp n) (hx : M.1 10 0 0 3 = iz ((tkP tp n k : Nat) : Int)) (h : ∀ M', Off oAd M M' → rTo M' tp n k → Q none M') : zEv Γ 164 [zo 10 0 0] M Q := by
  have hn := hT.2.1
  have hP := tkP_le (tp := tp) (n := n) k
  have hP1 := tkP_le (tp := tp) (n := n) (k + 1)
  have hS := tkW_le (tp := tp) (n := n) (k := k)
  have hbt : ∀ p, p < n → 0 ≤ tp p ∧ tp p ≤ 255 := fun p hp => (hT.2.2 p hp).2
  have hsk := rnF_ok (tp := tp) (k := 4) (by omega) hP
  have eW : rnF tp n 4 (tkP tp n k) = tkW tp n k := rfl
  rw [eW] at hsk
  have eE : tkP tp n (k + 1) = tkE tp n (tkW tp n k) := rfl
  have tpo : ∀ {M2 : zM}, Off oAd M M2 → rTp M2 tp n := fun o => hT.off o (by unfold oAd; omega) (by unfold oAd; intro p _; omega)
  refine en_164 ?_
  refine zloop (P := fun p M2 => tkP tp n k ≤ p ∧ Off oAd M M2 ∧ M2.1 10 0 0 3 = iz (p : Int)) (G := fun _ M2 => zGo Γ 164 Q 0 [some (zo 10 0 0), none, none, none] [] M2) (n := tkW tp n k) ?_ ?_ (tkW tp n k - tkP tp n k) (tkP tp n k) M (by omega) ⟨by omega, Off.rf M, hx⟩
  · rintro M2 ⟨_, o2, x2⟩
    have T2 := tpo o2
    have cb := ck_bt (tp := tp) (n := n) (p := tkW tp n k) (hbt _)
    refine bk_164_0 ?_
    rw [x2]
    refine r_byteAt T2 (by omega) ⟨_, rfl, fun q => ?_, fun q1 => ?_⟩
    · rw [show (10 : Int32) = iz 10 from rfl, iz_eq (by omega) (by omega) (by omega) (by omega)] at q
      exact absurd (cb.2.2.1.mpr (Or.inl q)) hS.2.2.2
    rw [x2]
    refine r_byteAt T2 (by omega) ⟨_, rfl, fun q2 => ?_, fun q => ?_⟩
    rotate_left
    · rw [show (32 : Int32) = iz 32 from rfl, iz_eq (by omega) (by omega) (by omega) (by omega)] at q
      exact absurd (cb.2.2.1.mpr (Or.inr q)) hS.2.2.2
    rw [x2]
    have o3 : Off oAd M (zw M2 10 0 0 4 (iz ((tkW tp n k : Nat) : Int))) := o2.w _ (by unfold oAd; omega)
    have x3 : (zw M2 10 0 0 4 (iz ((tkW tp n k : Nat) : Int))).1 10 0 0 3 = iz ((tkW tp n k : Nat) : Int) := (zw_ne (by omega)).trans x2
    have w3 : (zw M2 10 0 0 4 (iz ((tkW tp n k : Nat) : Int))).1 10 0 0 4 = iz ((tkW tp n k : Nat) : Int) := zw_eq
    rw [x3]
    generalize hM3 : zw M2 10 0 0 4 (iz ((tkW tp n k : Nat) : Int)) = M3 at *
    have T3 := tpo o3
    refine r_byteAt T3 (by omega) ⟨_, rfl, fun q3 => ?_, fun q3 => ?_⟩
    rotate_left
    · rw [iz0, iz_le (by omega) (by omega) (by omega) (by omega)] at q3
      have kz := cb.2.2.2.1.mpr (by omega)
      have ee : tkP tp n (k + 1) = tkW tp n k := by
        rw [eE]
        unfold tkE
        rw [if_neg (by omega), if_pos kz]
      refine h _ (o3.w _ (by unfold oAd; omega)) ⟨(zw_ne (by omega)).trans w3, ?_, ?_, ?_, ?_⟩
      · rw [zw_eq, tkK_z kz]
        rfl
      · intro z
        rw [tkK_z kz] at z
        omega
      · intro z
        rw [tkK_z kz] at z
        omega
      · rw [zw_ne (by omega), x3, ee]
    rw [iz0, iz_le (by omega) (by omega) (by omega) (by omega)] at q3
    refine r_isLetter cb.2.2.2.2.2 (fun ql => ⟨_, rfl, fun z => absurd z (by decide), fun _ => ?_⟩) (fun ql => ⟨_, rfl, fun _ => ?_, fun z => absurd rfl z⟩)
    · -- a word
      have k5 := cb.1.mpr ql
      have ee : tkP tp n (k + 1) = rnF tp n 5 (tkW tp n k) := by
        rw [eE]
        unfold tkE
        rw [if_pos (Or.inl k5), k5]
      have rn := rnF_ok (tp := tp) (k := 5) (by omega) hS.2.1
      rw [← ee] at rn
      have hlet : ∀ i, tkW tp n k ≤ i → i < tkP tp n (k + 1) → i < n ∧ 97 ≤ tp i ∧ tp i ≤ 122 := fun i h1 h2 => by
        have kk := rn.2.2.1 i h1 h2
        have hin : i < n := by omega
        have c2 := (ck_bt (tp := tp) (n := n) (p := i) (hbt _)).1.mp kk
        unfold btA at c2
        rw [if_pos hin] at c2
        exact ⟨hin, c2⟩
      have key := zloop (P := fun i M4 => tkW tp n k ≤ i ∧ Off oAd M M4 ∧ M4.1 10 0 0 3 = iz (i : Int) ∧ M4.1 10 0 0 4 = iz ((tkW tp n k : Nat) : Int)) (G := fun i M4 => zGo Γ 164 Q 77 [some (zo 10 0 0), none, some (zl (lz ((enL (wl tp (tkW tp n k) (min (i - tkW tp n k) 7)) 0 : Nat) : Int))), none] [] M4) (n := tkP tp n (k + 1)) ?_ ?_ (tkP tp n (k + 1) - tkW tp n k) (tkW tp n k) M3 (by omega) ⟨by omega, o3, x3, w3⟩
      · rw [Nat.sub_self, Nat.zero_min] at key
        exact key
      · rintro M4 ⟨_, o4, x4, w4⟩
        have T4 := tpo o4
        have ce := ck_bt (tp := tp) (n := n) (p := tkP tp n (k + 1)) (hbt _)
        refine bk_164_77 ?_
        rw [x4]
        refine r_byteAt T4 (by omega) ⟨_, rfl, r_isLetter ce.2.2.2.2.2 (fun q => absurd (ce.1.mpr q) rn.2.2.2) (fun _ => ⟨_, rfl, fun _ => ?_, fun z => absurd rfl z⟩)⟩
        rw [x4, w4, iz_sub, show (6 : Int32) = iz 6 from rfl, iz_le (by omega) (by omega) (by omega) (by omega)]
        have e5 := tkK_5 k5
        have wd := wl_d (tp := tp) (w := tkW tp n k) (tkP tp n (k + 1) - tkW tp n k) (fun i hi => (hlet (tkW tp n k + i) (by omega) (by omega)).2)
        have wll := wl_len (tp := tp) (w := tkW tp n k) (tkP tp n (k + 1) - tkW tp n k)
        have wcb := wcode_b (wl tp (tkW tp n k) (tkP tp n (k + 1) - tkW tp n k))
        refine ⟨fun q => r_wordOf ⟨_, rfl, ?_⟩, fun q => ?_⟩
        · rw [show min (tkP tp n (k + 1) - tkW tp n k) 7 = tkP tp n (k + 1) - tkW tp n k by omega, wq_code (by omega) wd, ← e5]
          have z7 : ∀ v : Int32, (zw M4 10 0 0 7 v).1 10 0 0 7 = v := fun v => zw_eq
          rw [z7]
          rw [← e5] at wcb
          by_cases z3 : tkK tp n k = 3
          · rw [if_pos z3]
            refine ⟨fun z => absurd rfl z, fun _ => h _ ((o4.w _ (by unfold oAd; omega)).w _ (by unfold oAd; omega)) ⟨?_, ?_, ?_, ?_, ?_⟩⟩
            · rw [zw_ne (by omega), zw_ne (by omega), w4]
            · rw [zw_eq, z3]
              rfl
            · intro z; omega
            · intro z; omega
            · rw [zw_ne (by omega), zw_ne (by omega), x4]
          · rw [if_neg z3]
            have hrw : 1 ≤ rwk (tkK tp n k) ∧ rwk (tkK tp n k) ≤ 31 := by
              unfold rwk
              split
              · omega
              · split <;> omega
            refine ⟨fun _ => h _ ((o4.w _ (by unfold oAd; omega)).w _ (by unfold oAd; omega)) ⟨?_, ?_, ?_, ?_, ?_⟩, fun z => ?_⟩
            · rw [zw_ne (by omega), zw_ne (by omega), w4]
            · rw [zw_eq]
              unfold rtk
              rw [if_neg z3, if_pos (by omega)]
              rfl
            · intro z; omega
            · intro _
              rw [zw_ne (by omega), zw_eq]
            · rw [zw_ne (by omega), zw_ne (by omega), x4]
            · rw [show (99 : Int32) = iz 99 from rfl, iz_eq (by omega) (by omega) (by omega) (by omega)] at z
              omega
        · have z3 : tkK tp n k = 3 := by
            rw [e5]
            have hno : ∀ x ∈ WT, x.length ≤ 6 := by decide
            have : ∀ (r : List (List Nat)) (j : Nat), (∀ x ∈ r, x.length ≤ 6) → wcF (wl tp (tkW tp n k) (tkP tp n (k + 1) - tkW tp n k)) r j = 3 := by
              intro r
              induction r with
              | nil => intro j _; rfl
              | cons x r ihr =>
                intro j hr
                rw [wcF, if_neg (fun e => by
                  have := hr x List.mem_cons_self
                  rw [← e, wll] at this
                  omega)]
                exact ihr (j + 1) (fun y hy => hr y (List.mem_cons_of_mem _ hy))
            exact this WT 11 hno
          have z7 : (zw M4 10 0 0 7 99).1 10 0 0 7 = 99 := zw_eq
          rw [z7]
          refine ⟨fun z => absurd rfl z, fun _ => h _ ((o4.w _ (by unfold oAd; omega)).w _ (by unfold oAd; omega)) ⟨?_, ?_, ?_, ?_, ?_⟩⟩
          · rw [zw_ne (by omega), zw_ne (by omega), w4]
          · rw [zw_eq, z3]
            rfl
          · intro z; omega
          · intro z; omega
          · rw [zw_ne (by omega), zw_ne (by omega), x4]
      · rintro i M4 hi ⟨hwi, o4, x4, w4⟩ ih
        have T4 := tpo o4
        have hl := hlet i hwi hi
        have eb : btA tp n i = tp i := by unfold btA; rw [if_pos hl.1]
        refine bk_164_77 ?_
        rw [x4]
        refine r_byteAt T4 (by omega) ⟨_, rfl, ?_⟩
        rw [eb]
        refine r_isLetter (by omega) (fun _ => ⟨_, rfl, fun z => absurd z (by decide), fun _ => ?_⟩) (fun z => absurd hl.2 z)
        rw [x4, w4, iz_sub, show (7 : Int32) = iz 7 from rfl, iz_le (by omega) (by omega) (by omega) (by omega), iz_s]
        have nx : ∀ M5 : zM, Off oAd M4 M5 → M5.1 10 0 0 3 = iz ((i + 1 : Nat) : Int) → M5.1 10 0 0 4 = M4.1 10 0 0 4 → zGo Γ 164 Q 77 [some (zo 10 0 0), none, some (zl (lz ((enL (wl tp (tkW tp n k) (min (i + 1 - tkW tp n k) 7)) 0 : Nat) : Int))), none] [] M5 := fun M5 o5 x5 w5 => ih M5 ⟨by omega, o4.tr o5, x5, w5.trans w4⟩
        refine ⟨fun q => ?_, fun q => r_byteAt T4 (by omega) ⟨_, rfl, ?_⟩⟩
        · have := nx (zw M4 10 0 0 3 (iz ((i + 1 : Nat) : Int))) ((Off.rf M4).w _ (by unfold oAd; omega)) zw_eq (zw_ne (by omega))
          rw [show min (i + 1 - tkW tp n k) 7 = min (i - tkW tp n k) 7 by omega] at this
          exact this
        · have := nx (zw M4 10 0 0 3 (iz ((i + 1 : Nat) : Int))) ((Off.rf M4).w _ (by unfold oAd; omega)) zw_eq (zw_ne (by omega))
          rw [show min (i + 1 - tkW tp n k) 7 = (i - tkW tp n k) + 1 by omega, enL_wl, show tkW tp n k + (i - tkW tp n k) = i by omega] at this
          rw [eb, show min (i - tkW tp n k) 7 = i - tkW tp n k by omega, x4, iz_s, iz_lz (by omega) (by omega), show (32 : Int64) = lz 32 from rfl, show (96 : Int64) = lz 96 from rfl, lz_mul, lz_add, lz_sub]
          rw [show (32 : Int) * ((enL (wl tp (tkW tp n k) (i - tkW tp n k)) 0 : Nat) : Int) + tp i - 96 = ((32 * enL (wl tp (tkW tp n k) (i - tkW tp n k)) 0 + (tp i - 96).toNat : Nat) : Int) by omega]
          exact this
    · refine r_isDigit cb.2.2.2.2.2 (fun qd => ⟨_, rfl, fun z => absurd z (by decide), fun _ => ?_⟩) (fun qd => ⟨_, rfl, fun _ => ?_, fun z => absurd rfl z⟩)
      · -- a number
        have k1 := cb.2.1.mpr qd
        have ee : tkP tp n (k + 1) = rnF tp n 1 (tkW tp n k) := by
          rw [eE]
          unfold tkE
          rw [if_pos (Or.inr k1), k1]
        have rn := rnF_ok (tp := tp) (k := 1) (by omega) hS.2.1
        rw [← ee] at rn
        have hdig : ∀ i, tkW tp n k ≤ i → i < tkP tp n (k + 1) → i < n ∧ 48 ≤ tp i ∧ tp i ≤ 57 := fun i h1 h2 => by
          have kk := rn.2.2.1 i h1 h2
          have hin : i < n := by omega
          have c2 := (ck_bt (tp := tp) (n := n) (p := i) (hbt _)).2.1.mp kk
          unfold btA at c2
          rw [if_pos hin] at c2
          exact ⟨hin, c2⟩
        have nvb : ∀ m, m ≤ 4 → tkW tp n k + m ≤ tkP tp n (k + 1) → 0 ≤ nvT tp (tkW tp n k) m ∧ nvT tp (tkW tp n k) m < 10000 := fun m h1 h2 => by
          have := nvT_b (tp := tp) (w := tkW tp n k) m h1 (fun i hi => (hdig (tkW tp n k + i) (by omega) (by omega)).2)
          have hp : (10 : Int) ^ m ≤ 10 ^ 4 := by
            rcases (by omega : m = 0 ∨ m = 1 ∨ m = 2 ∨ m = 3 ∨ m = 4) with e | e | e | e | e <;> subst e <;> decide
          have h4 : (10 : Int) ^ 4 = 10000 := by decide
          omega
        have key := zloop (P := fun i M4 => tkW tp n k ≤ i ∧ Off oAd M M4 ∧ M4.1 10 0 0 3 = iz (i : Int) ∧ M4.1 10 0 0 4 = iz ((tkW tp n k : Nat) : Int) ∧ M4.1 10 0 0 6 = iz (nvT tp (tkW tp n k) (min (i - tkW tp n k) 4))) (G := fun i M4 => zGo Γ 164 Q 198 [some (zo 10 0 0), none, none, none] [] M4) (n := tkP tp n (k + 1)) ?_ ?_ (tkP tp n (k + 1) - tkW tp n k) (tkW tp n k) (zw M3 10 0 0 6 0) (by omega) ⟨by omega, o3.w _ (by unfold oAd; omega), (zw_ne (by omega)).trans x3, (zw_ne (by omega)).trans w3, by rw [zw_eq, Nat.sub_self, Nat.zero_min]; rfl⟩
        · exact key
        · rintro M4 ⟨_, o4, x4, w4, n4⟩
          have T4 := tpo o4
          have ce := ck_bt (tp := tp) (n := n) (p := tkP tp n (k + 1)) (hbt _)
          have e1 := tkK_1 k1
          refine bk_164_198 ?_
          rw [x4]
          refine r_byteAt T4 (by omega) ⟨_, rfl, r_isDigit ce.2.2.2.2.2 (fun q => absurd (ce.2.1.mpr q) rn.2.2.2) (fun _ => ⟨_, rfl, fun _ => ?_, fun z => absurd rfl z⟩)⟩
          rw [x4, w4, iz_sub, show (4 : Int32) = iz 4 from rfl, iz_le (by omega) (by omega) (by omega) (by omega)]
          refine ⟨fun q => h _ (o4.w _ (by unfold oAd; omega)) ?_, fun q => h _ (o4.w _ (by unfold oAd; omega)) ?_⟩
          · rw [if_neg (by omega)] at e1
            refine ⟨(zw_ne (by omega)).trans w4, ?_, fun _ => ?_, ?_, (zw_ne (by omega)).trans x4⟩
            · rw [zw_eq, e1]
              rfl
            · rw [zw_ne (by omega), n4]
              unfold tkN
              rw [if_pos e1, show min (tkP tp n (k + 1) - tkW tp n k) 4 = tkP tp n (k + 1) - tkW tp n k by omega]
            · intro z; omega
          · rw [if_pos (by omega)] at e1
            refine ⟨(zw_ne (by omega)).trans w4, ?_, ?_, ?_, (zw_ne (by omega)).trans x4⟩
            · rw [zw_eq, e1]
              rfl
            · intro z; omega
            · intro z; omega
        · rintro i M4 hi ⟨hwi, o4, x4, w4, n4⟩ ih
          have T4 := tpo o4
          have hl := hdig i hwi hi
          have eb : btA tp n i = tp i := by unfold btA; rw [if_pos hl.1]
          refine bk_164_198 ?_
          rw [x4]
          refine r_byteAt T4 (by omega) ⟨_, rfl, ?_⟩
          rw [eb]
          refine r_isDigit (by omega) (fun _ => ⟨_, rfl, fun z => absurd z (by decide), fun _ => ?_⟩) (fun z => absurd hl.2 z)
          rw [x4, w4, iz_sub, show (4 : Int32) = iz 4 from rfl, iz_le (by omega) (by omega) (by omega) (by omega), iz_s]
          refine ⟨fun q => ih _ ⟨by omega, o4.w _ (by unfold oAd; omega), zw_eq, (zw_ne (by omega)).trans w4, ?_⟩, fun q => r_byteAt T4 (by omega) ⟨_, rfl, ?_⟩⟩
          · rw [zw_ne (by omega), n4, show min (i + 1 - tkW tp n k) 4 = min (i - tkW tp n k) 4 by omega]
          · have nb := nvb (i - tkW tp n k) (by omega) (by omega)
            rw [eb, n4, show min (i - tkW tp n k) 4 = i - tkW tp n k by omega, show (10 : Int32) = iz 10 from rfl, show (48 : Int32) = iz 48 from rfl, iz_mul, iz_add, iz_sub]
            have x5 : (zw M4 10 0 0 6 (iz (10 * nvT tp (tkW tp n k) (i - tkW tp n k) + tp i - 48))).1 10 0 0 3 = iz (i : Int) := (zw_ne (by omega)).trans x4
            rw [x5, iz_s]
            refine ih _ ⟨by omega, (o4.w _ (by unfold oAd; omega)).w _ (by unfold oAd; omega), zw_eq, ((zw_ne (by omega)).trans (zw_ne (by omega))).trans w4, ?_⟩
            rw [zw_ne (by omega), zw_eq, show min (i + 1 - tkW tp n k) 4 = (i - tkW tp n k) + 1 by omega, nvT, show tkW tp n k + (i - tkW tp n k) = i by omega]
      · -- a stop or a strange byte
        have hk0 : kc tp n (tkW tp n k) ≠ 0 := fun z => by have := cb.2.2.2.1.mp z; omega
        have hk5 : kc tp n (tkW tp n k) ≠ 5 := fun z => ql (cb.1.mp z)
        have hk1 : kc tp n (tkW tp n k) ≠ 1 := fun z => qd (cb.2.1.mp z)
        have ee : tkP tp n (k + 1) = tkW tp n k + 1 := by
          rw [eE]
          unfold tkE
          rw [if_neg (by omega), if_neg hk0]
        rw [x3, iz_s, show (iz (btA tp n (tkW tp n k)) = 59) = (btA tp n (tkW tp n k) = 59) by rw [show (59 : Int32) = iz 59 from rfl, iz_eq (by omega) (by omega) (by omega) (by omega)]]
        refine ⟨fun q => h _ ((o3.w _ (by unfold oAd; omega)).w _ (by unfold oAd; omega)) ?_, fun q => h _ ((o3.w _ (by unfold oAd; omega)).w _ (by unfold oAd; omega)) ?_⟩
        · have k3 : kc tp n (tkW tp n k) = 3 := by
            have h2 : kc tp n (tkW tp n k) ≠ 2 := fun z => q (cb.2.2.2.2.1.mp z)
            have h4 := hS.2.2.2
            rcases kc_c tp n (tkW tp n k) with e | e | e | e | e | e <;> omega
          have e3 := tkK_3 k3
          refine ⟨((zw_ne (by omega)).trans (zw_ne (by omega))).trans w3, ?_, ?_, ?_, ?_⟩
          · rw [zw_eq, e3]
            rfl
          · intro z; omega
          · intro z; omega
          · rw [zw_ne (by omega), zw_eq, ee]
        · have k2 := cb.2.2.2.2.1.mpr q
          have e2 := tkK_2 k2
          refine ⟨((zw_ne (by omega)).trans (zw_ne (by omega))).trans w3, ?_, ?_, ?_, ?_⟩
          · rw [zw_eq, e2]
            rfl
          · intro z; omega
          · intro z; omega
          · rw [zw_ne (by omega), zw_eq, ee]
  · rintro p M2 hp ⟨hpk, o2, x2⟩ ih
    have T2 := tpo o2
    have kk := hsk.2.2.1 p hpk hp
    have cb := ck_bt (tp := tp) (n := n) (p := p) (hbt _)
    have hb := cb.2.2.1.mp kk
    refine bk_164_0 ?_
    rw [x2]
    refine r_byteAt T2 (by omega) ⟨_, rfl, fun q => ?_, fun q => ?_⟩
    · rw [x2, iz_s]
      exact ih _ ⟨by omega, o2.w _ (by unfold oAd; omega), zw_eq⟩
    · rw [show (10 : Int32) = iz 10 from rfl, iz_eq (by omega) (by omega) (by omega) (by omega)] at q
      rw [x2]
      refine r_byteAt T2 (by omega) ⟨_, rfl, fun q2 => ?_, fun _ => ?_⟩
      · rw [show (32 : Int32) = iz 32 from rfl, iz_eq (by omega) (by omega) (by omega) (by omega)] at q2
        omega
      · rw [x2, iz_s]
        exact ih _ ⟨by omega, o2.w _ (by unfold oAd; omega), zw_eq⟩
end Z86
