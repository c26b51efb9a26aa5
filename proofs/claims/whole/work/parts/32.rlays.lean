/-! the reference's line -/
def rBd (M : zM) (n : Nat) (bd mk : Nat → Int) (ex : Nat → Bool) : Prop := ∀ i, i < n → M.1 10 0 16 i = iz (bd i) ∧ M.1 10 0 17 i = iz (mk i) ∧ M.1 10 0 18 i = iz (if ex i = true then 1 else 0)
def rng (n : Nat) (bd mk : Nat → Int) : Prop := ∀ i, i < n → (0 ≤ bd i ∧ bd i ≤ 99) ∧ 1 ≤ mk i ∧ mk i ≤ 9
def rOr (M : zM) (l : List Nat) : Prop := M.1 10 0 0 18 = iz (l.length : Int) ∧ ∀ k, k < l.length → M.1 10 0 20 k = iz ((l.getD k 0 : Nat) : Int)
theorem iz0 : (0 : Int32) = iz 0 := rfl
theorem iz1 : (1 : Int32) = iz 1 := rfl
theorem iz_s (k : Nat) : iz (k : Int) + 1 = iz ((k + 1 : Nat) : Int) := by rw [iz1, iz_add]; congr 1
theorem pas_b {S : SB} (h : SOK S) (j : Nat) : 0 ≤ pas S j ∧ pas S j ≤ 99 := by
  unfold pas
  split
  · next hj => exact h.2.2.2.2.1 j (by have := h.1.2; omega)
  · omega
theorem pas_m {S : SB} (h : SOK S) (j : Nat) : pas S (j + 1) ≤ pas S j := by
  by_cases h1 : ((j + 1 : Nat) : Int) < S 0
  · have h6 := h.1.2
    have := h.2.2.2.2.2.2.2.2.2.2.2.2.2.2.2 j (by omega)
    unfold pas
    rw [if_pos h1, if_pos (by omega)]
    rcases this with q | q
    · rw [show 4 + (j + 1) = 5 + j by omega]; exact q
    · omega
  · have := (pas_b h j).1
    unfold pas
    rw [if_neg h1]
    exact this
theorem sco_b {bd mk : Nat → Int} {l : List Nat} {n : Nat} (hr : rng n bd mk) (hl : ∀ x ∈ l, x < n) (k : Nat) : 0 ≤ sco bd mk l k ∧ sco bd mk l k ≤ 891 := by
  unfold sco
  split
  · next hk =>
    have hm : l.getD k 0 ∈ l := by
      rw [List.getD_eq_getElem?_getD, List.getElem?_eq_getElem hk]
      exact List.getElem_mem hk
    obtain ⟨⟨h1, h2⟩, h3, h4⟩ := hr _ (hl _ hm)
    constructor
    · exact Int.mul_nonneg h1 (by omega)
    · have : bd (l.getD k 0) * mk (l.getD k 0) ≤ 99 * 9 := Int.mul_le_mul h2 h4 (by omega) (by omega)
      omega
  · omega
theorem hsum_b {S : SB} {bd mk : Nat → Int} {l : List Nat} {n : Nat} (hS : SOK S) (hr : rng n bd mk) (hl : ∀ x ∈ l, x < n) : ∀ (d k : Nat), 0 ≤ hsum S bd mk l k d ∧ hsum S bd mk l k d ≤ 891 * (pas S k - pas S (k + d))
  | 0, k => by simp [hsum]
  | d + 1, k => by
    obtain ⟨h1, h2⟩ := hsum_b hS hr hl d (k + 1)
    obtain ⟨h3, h4⟩ := sco_b hr hl (k + 1)
    have h5 := pas_m hS k
    have h6 : 0 ≤ (pas S k - pas S (k + 1)) * sco bd mk l (k + 1) := Int.mul_nonneg (by omega) h3
    have h7 : (pas S k - pas S (k + 1)) * sco bd mk l (k + 1) ≤ (pas S k - pas S (k + 1)) * 891 := Int.mul_le_mul_of_nonneg_left h4 (by omega)
    simp only [hsum]
    rw [show k + (d + 1) = k + 1 + d by omega]
    constructor <;> omega
theorem upI_b {v m : Int} (h1 : 0 ≤ v) (h2 : 1 ≤ m) : 0 ≤ upI v m ∧ upI v m ≤ v := by
  unfold upI
  constructor
  · exact Int.ediv_nonneg (by omega) (by omega)
  · refine Int.le_of_lt_add_one (Int.ediv_lt_of_lt_mul (by omega) ?_)
    have e : (v + 1) * m = v * m + m := by rw [Int.add_mul, Int.one_mul]
    have : v * 1 ≤ v * m := Int.mul_le_mul_of_nonneg_left h2 h1
    omega
theorem getD_mem {l : List Nat} {k : Nat} (h : k < l.length) : l.getD k 0 ∈ l := by
  rw [List.getD_eq_getElem?_getD, List.getElem?_eq_getElem h]
  exact List.getElem_mem h
section Z32
variable {Γ : zC} {Q : zQ} {M : zM} {b : Nat} {S : SB} {n nb : Nat} {bd mk : Nat → Int} {ex : Nat → Bool} {l : List Nat} {bar : Int}
theorem r_score (hn : n ≤ 8) (hb : rBd M n bd mk ex) (ho : rOr M l) (hl : ∀ x ∈ l, x < n) (hlen : l.length ≤ 8) {k : Nat} (hk : k < 100) (h : Q (some (zi (iz (sco bd mk l k)))) M) : zEv Γ 183 [zo 10 0 0, zi (iz (k : Int))] M Q := by
  refine en_183 (bk_183_0 ?_)
  rw [ho.1, iz_le (by omega) (by omega) (by omega) (by omega)]
  unfold sco at h
  constructor
  · intro hkl
    rw [if_neg (by omega)] at h
    exact h
  · intro hkl
    have hkl : k < l.length := by omega
    have hx := hl _ (getD_mem hkl)
    obtain ⟨b1, b2, b3⟩ := hb _ hx
    rw [if_pos hkl, ← iz_mul] at h
    rw [iz_clN (by omega), ho.2 k hkl, iz_clN (by omega), b1, b2]
    have e1 := iz_inN (i := k) (n := 8) (by omega) (by omega)
    have e2 := iz_inN (i := l.getD k 0) (n := 8) (by omega) (by omega)
    exact ⟨e1, e2, e1, e2, h⟩
theorem r_passOf (hS : SOK S) (hB : rB M b S) {j : Nat} (hj : j < 100) (h : Q (some (zi (iz (pas S j)))) M) : zEv Γ 186 [zo 10 0 0, zi (iz (j : Int))] M Q := by
  refine en_186 (bk_186_0 ?_)
  have h6 := hS.1
  rw [hB.2.1, iz_le (by omega) (by omega) (by omega) (by omega)]
  unfold pas at h
  constructor
  · intro hjl
    rw [if_neg (by omega)] at h
    exact h
  · intro hjl
    rw [if_pos (by omega)] at h
    refine r_of hB (4 + j) (by omega) ?_ ⟨_, rfl, h⟩
    rw [iz_nat, iz_add]
    congr 1
theorem r_payOf (hS : SOK S) (hnb : S 0 = (nb : Int)) (hB : rB M b S) (hn : n ≤ 8) (hr : rng n bd mk) (hb : rBd M n bd mk ex) (ho : rOr M l) (hl : ∀ x ∈ l, x < n) (hlen : l.length ≤ 8) (hbar : 0 ≤ bar ∧ bar ≤ 99) {j : Nat} (hj : j < nb) (hjl : j < l.length) (h : Q (some (zi (iz (payS S bd mk bar l j)))) M) : zEv Γ 188 [zo 10 0 0, zi (iz (j : Int)), zi (iz bar)] M Q := by
  have h6 := hS.1
  have hx := hl _ (getD_mem hjl)
  obtain ⟨b1, b2, b3⟩ := hb _ hx
  obtain ⟨⟨r1, r2⟩, r3, r4⟩ := hr _ hx
  have hw := hS.2.2.1
  have hp := pas_b hS j
  have hs1 := sco_b hr hl (j + 1)
  refine en_188 (bk_188_0 ?_)
  rw [iz_clN (by omega), ho.2 j hjl]
  refine ⟨iz_inN (by omega) (by omega), r_of hB 2 (by omega) rfl ⟨_, rfl, ?_⟩⟩
  rw [iz0, iz1, iz_eq (by omega) (by omega) (by omega) (by omega), iz_clN (by omega), b1]
  constructor
  · intro q0
    refine r_of hB 2 (by omega) rfl ⟨_, rfl, ?_⟩
    rw [iz_eq (by omega) (by omega) (by omega) (by omega)]
    constructor
    · intro q1
      -- harm
      have loop : ∀ (d k : Nat) (acc : Int), k + d = nb → 0 ≤ acc → acc + hsum S bd mk l k d = hsum S bd mk l j (nb - j) → zGo Γ 188 Q 74 [some (zo 10 0 0), some (zi (iz (j : Int))), some (zi (iz bar)), some (zi (iz ((l.getD j 0 : Nat) : Int))), some (zi (iz acc)), some (zi (iz (k : Int)))] [] M := by
        intro d
        induction d with
        | zero =>
          intro k acc hk ha he
          refine bk_188_74 ⟨fun _ => ?_, fun q => ?_⟩
          · refine r_passOf hS hB (by omega) ⟨_, rfl, ?_⟩
            rw [iz_clN (by omega), b2]
            refine ⟨iz_inN (by omega) (by omega), ?_⟩
            have hh := hsum_b hS hr hl (nb - j) j
            have hp2 := pas_b hS (j + (nb - j))
            simp only [hsum] at he
            refine r_up (by omega) (by omega) ⟨_, rfl, ?_⟩
            rw [iz_mul]
            have hbp : 0 ≤ bar * pas S j ∧ bar * pas S j ≤ 99 * 99 := ⟨Int.mul_nonneg hbar.1 hp.1, Int.mul_le_mul hbar.2 hp.2 hp.1 (by omega)⟩
            have hub := upI_b (v := acc) (m := mk (l.getD j 0)) ha r3
            unfold upI at hub
            refine r_greater (by omega) (by omega) ⟨_, rfl, ?_⟩
            unfold payS at h
            rw [if_neg q0, if_neg q1, hnb, show ((nb : Int).toNat - j) = nb - j by omega, ← he, Int.add_zero] at h
            exact h
          · exfalso
            rw [hB.2.1, iz_le (by omega) (by omega) (by omega) (by omega)] at q
            omega
        | succ d ih =>
          intro k acc hk ha he
          refine bk_188_74 ⟨fun q => ?_, fun _ => ?_⟩
          · exfalso
            rw [hB.2.1, iz_le (by omega) (by omega) (by omega) (by omega)] at q
            omega
          · refine r_passOf hS hB (by omega) ⟨_, rfl, ?_⟩
            rw [iz_s]
            refine r_passOf hS hB (by omega) ⟨_, rfl, ?_⟩
            refine r_score hn hb ho hl hlen (by omega) ⟨_, rfl, ?_⟩
            rw [iz_sub, iz_mul, iz_add]
            simp only [hsum] at he
            have h3 := sco_b hr hl (k + 1)
            have h5 := pas_m hS k
            have h6 : 0 ≤ (pas S k - pas S (k + 1)) * sco bd mk l (k + 1) := Int.mul_nonneg (by omega) h3.1
            exact ih (k + 1) _ (by omega) (by omega) (by omega)
      exact loop (nb - j) j 0 (by omega) (by omega) (by omega)
    · intro q1
      -- next
      refine r_passOf hS hB (by omega) ⟨_, rfl, ?_⟩
      refine r_greater (by omega) (by omega) ⟨_, rfl, ?_⟩
      rw [iz_add, show (j : Int) + 1 = ((j + 1 : Nat) : Int) by omega]
      refine r_score hn hb ho hl hlen (by omega) ⟨_, rfl, iz_inN (by omega) (by omega), ?_⟩
      have hub := upI_b (v := sco bd mk l (j + 1)) (m := mk (l.getD j 0)) hs1.1 r3
      rw [b2]
      refine r_up (by omega) (by omega) ⟨_, rfl, ?_⟩
      unfold upI at hub
      refine r_greater (by omega) (by omega) ⟨_, rfl, ?_⟩
      rw [iz_mul]
      unfold payS at h
      rw [if_neg q0, if_pos q1] at h
      exact h
  · intro q0
    refine ⟨iz_inN (by omega) (by omega), r_passOf hS hB (by omega) ⟨_, rfl, ?_⟩⟩
    rw [iz_mul]
    unfold payS at h
    rw [if_pos q0] at h
    exact h
/-- what lays() writes -/
def rLy (c t f i : Nat) : Prop := c = 10 ∧ t = 0 ∧ ((f = 0 ∧ i = 18) ∨ f = 20 ∨ f = 21)
theorem rB.off {P : Nat → Nat → Nat → Nat → Prop} {M M' : zM} (h : rB M b S) (ho : Off P M M') (hP : ∀ i, ¬ P 10 0 1 i) (h1 : ¬ P 10 0 0 12) (h2 : ¬ P 10 0 0 13) (h3 : ¬ P 10 0 0 14) : rB M' b S :=
  ⟨(ho.1 _ _ _ _ h1).trans h.1, (ho.1 _ _ _ _ h2).trans h.2.1, (ho.1 _ _ _ _ h3).trans h.2.2.1, fun k hk => (ho.1 _ _ _ _ (hP _)).trans (h.2.2.2.1 k hk), h.2.2.2.2⟩
theorem rBd.off {P : Nat → Nat → Nat → Nat → Prop} {M M' : zM} (h : rBd M n bd mk ex) (ho : Off P M M') (h1 : ∀ i, ¬ P 10 0 16 i) (h2 : ∀ i, ¬ P 10 0 17 i) (h3 : ∀ i, ¬ P 10 0 18 i) : rBd M' n bd mk ex := fun i hi =>
  ⟨(ho.1 _ _ _ _ (h1 i)).trans (h i hi).1, (ho.1 _ _ _ _ (h2 i)).trans (h i hi).2.1, (ho.1 _ _ _ _ (h3 i)).trans (h i hi).2.2⟩
theorem rLy_n {f i : Nat} (h : f ≠ 20) (h' : f ≠ 21) (h2 : f ≠ 0 ∨ i ≠ 18) : ¬ rLy 10 0 f i := by
  rintro ⟨-, -, ⟨a, b⟩ | a | a⟩ <;> omega
theorem r_lays (hS : SOK S) (hnb : S 0 = (nb : Int)) (hB : rB M b S) (hn : n ≤ 8) (hr : rng n bd mk) (hb : rBd M n bd mk ex) (hbar : 0 ≤ bar ∧ bar ≤ 99)
    (h : ∀ M', Off rLy M M' → rOr M' (lin bd mk ex bar n) → (∀ j, j < nb → M'.1 10 0 21 j = iz (if j < (lin bd mk ex bar n).length then payS S bd mk bar (lin bd mk ex bar n) j else 0)) → Q none M') : zEv Γ 187 [zo 10 0 0, zi (iz (n : Int)), zi (iz bar)] M Q := by
  have h6 := hS.1
  -- the boards' pays
  have phase2 : ∀ (d j : Nat) (M1 : zM), j + d = nb → Off rLy M M1 → rOr M1 (lin bd mk ex bar n) → (∀ k, k < j → M1.1 10 0 21 k = iz (if k < (lin bd mk ex bar n).length then payS S bd mk bar (lin bd mk ex bar n) k else 0)) → zGo Γ 187 Q 147 [some (zo 10 0 0), none, some (zi (iz bar)), some (zi (iz (j : Int))), none] [] M1 := by
    intro d
    induction d with
    | zero =>
      intro j M1 hj ho hor hp
      have hB1 := hB.off ho (fun i => rLy_n (by omega) (by omega) (by omega)) (rLy_n (by omega) (by omega) (by omega)) (rLy_n (by omega) (by omega) (by omega)) (rLy_n (by omega) (by omega) (by omega))
      refine bk_187_147 ⟨fun _ => h M1 ho hor (fun k hk => hp k (by omega)), fun q => ?_⟩
      exfalso
      rw [hB1.2.1, iz_le (by omega) (by omega) (by omega) (by omega)] at q
      omega
    | succ d ih =>
      intro j M1 hj ho hor hp
      have hB1 := hB.off ho (fun i => rLy_n (by omega) (by omega) (by omega)) (rLy_n (by omega) (by omega) (by omega)) (rLy_n (by omega) (by omega) (by omega)) (rLy_n (by omega) (by omega) (by omega))
      have hb1 := hb.off ho (fun i => rLy_n (by omega) (by omega) (by omega)) (fun i => rLy_n (by omega) (by omega) (by omega)) (fun i => rLy_n (by omega) (by omega) (by omega))
      have hlen := lin_len (bd := bd) (mk := mk) (ex := ex) (bar := bar) n
      have next : ∀ v : Int, v = (if j < (lin bd mk ex bar n).length then payS S bd mk bar (lin bd mk ex bar n) j else 0) → zGo Γ 187 Q 147 [some (zo 10 0 0), none, some (zi (iz bar)), some (zi (iz (j : Int) + 1)), none] [] (zw M1 10 0 21 j (iz v)) := by
        intro v hv
        rw [iz_s]
        refine ih (j + 1) _ (by omega) (ho.w _ ⟨rfl, rfl, Or.inr (Or.inr rfl)⟩) ⟨by rw [zw_get, if_neg (by omega)]; exact hor.1, fun k hk => by rw [zw_get, if_neg (by omega)]; exact hor.2 k hk⟩ (fun k hk => ?_)
        rw [zw_get]
        by_cases hkj : k = j
        · rw [if_pos (by omega), hv, hkj]
        · rw [if_neg (by omega)]
          exact hp k (by omega)
      refine bk_187_147 ⟨fun q => ?_, fun _ => ⟨fun q => ?_, fun q => ?_⟩⟩
      · exfalso
        rw [hB1.2.1, iz_le (by omega) (by omega) (by omega) (by omega)] at q
        omega
      · rw [hor.1, iz_le (by omega) (by omega) (by omega) (by omega)] at q
        refine ⟨iz_inN (by omega) (by omega), ?_⟩
        rw [iz_clN (by omega)]
        exact next 0 (by rw [if_neg (by omega)])
      · rw [hor.1, iz_le (by omega) (by omega) (by omega) (by omega)] at q
        refine r_payOf hS hnb hB1 hn hr hb1 hor (fun x hx => lin_lt n x hx) (by omega) hbar (by omega) (by omega) ⟨_, rfl, iz_inN (by omega) (by omega), ?_⟩
        rw [iz_clN (by omega)]
        exact next _ (by rw [if_pos (by omega)])
  -- those that stand
  have phase1 : ∀ (d i : Nat) (M1 : zM), i + d = n → Off rLy M M1 → rOr M1 (lin bd mk ex bar i) → zGo Γ 187 Q 7 [some (zo 10 0 0), some (zi (iz (n : Int))), some (zi (iz bar)), some (zi (iz (i : Int))), none] [] M1 := by
    intro d
    induction d with
    | zero =>
      intro i M1 hi ho hor
      have hin : i = n := by omega
      subst hin
      refine bk_187_7 ⟨fun _ => ?_, fun q => ?_⟩
      · exact phase2 nb 0 M1 (by omega) ho hor (fun k hk => by omega)
      · exfalso
        rw [iz_le (by omega) (by omega) (by omega) (by omega)] at q
        omega
    | succ d ih =>
      intro i M1 hi ho hor
      have hb1 := hb.off ho (fun i => rLy_n (by omega) (by omega) (by omega)) (fun i => rLy_n (by omega) (by omega) (by omega)) (fun i => rLy_n (by omega) (by omega) (by omega))
      obtain ⟨b1, b2, b3⟩ := hb1 i (by omega)
      obtain ⟨⟨r1, r2⟩, r3, r4⟩ := hr i (by omega)
      have hlen := lin_len (bd := bd) (mk := mk) (ex := ex) (bar := bar) i
      have skip : (ex i = true ∨ bd i < bar ∨ bd i = 0) → zGo Γ 187 Q 7 [some (zo 10 0 0), some (zi (iz (n : Int))), some (zi (iz bar)), some (zi (iz (i : Int) + 1)), none] [] M1 := by
        intro hq
        rw [iz_s]
        refine ih (i + 1) M1 (by omega) ho ?_
        rw [lin, if_pos hq]
        exact hor
      have ii := iz_inN (i := i) (n := 8) (by omega) (by omega)
      refine bk_187_7 ⟨fun q => ?_, fun _ => ⟨ii, ?_⟩⟩
      · exfalso
        rw [iz_le (by omega) (by omega) (by omega) (by omega)] at q
        omega
      rw [iz_clN (by omega), b3, b1, iz0]
      have e3 : (iz (if ex i = true then 1 else 0) = iz 0) = (ex i = false) := by
        cases ex i <;> decide
      rw [e3, iz_lt (by omega) (by omega) (by omega) (by omega), iz_eq (by omega) (by omega) (by omega) (by omega)]
      refine ⟨fun q => skip (Or.inl (by simpa using q)), fun q1 => ⟨ii, fun q => skip (Or.inr (Or.inl q)), fun q2 => ⟨ii, fun q3 => ?_, fun q => skip (Or.inr (Or.inr q))⟩⟩⟩
      -- he stands: his place, from behind
      have inner : ∀ (a : Nat) (M2 : zM), a ≤ (lin bd mk ex bar i).length → Off rLy M M2 → M2.1 10 0 0 18 = iz ((lin bd mk ex bar i).length : Int) → (∀ k, k < a → M2.1 10 0 20 k = iz (((lin bd mk ex bar i).getD k 0 : Nat) : Int)) → (∀ k, a ≤ k → k < (lin bd mk ex bar i).length → M2.1 10 0 20 (k + 1) = iz (((lin bd mk ex bar i).getD k 0 : Nat) : Int) ∧ bd ((lin bd mk ex bar i).getD k 0) * mk ((lin bd mk ex bar i).getD k 0) < bd i * mk i) → zGo Γ 187 Q 49 [some (zo 10 0 0), some (zi (iz (n : Int))), some (zi (iz bar)), some (zi (iz (i : Int))), some (zi (iz (a : Int)))] [] M2 := by
        have done : ∀ (a : Nat) (M2 : zM), a ≤ (lin bd mk ex bar i).length → Off rLy M M2 → M2.1 10 0 0 18 = iz ((lin bd mk ex bar i).length : Int) → (∀ k, k < a → M2.1 10 0 20 k = iz (((lin bd mk ex bar i).getD k 0 : Nat) : Int)) → (∀ k, a ≤ k → k < (lin bd mk ex bar i).length → M2.1 10 0 20 (k + 1) = iz (((lin bd mk ex bar i).getD k 0 : Nat) : Int) ∧ bd ((lin bd mk ex bar i).getD k 0) * mk ((lin bd mk ex bar i).getD k 0) < bd i * mk i) → (∀ k, k < a → bd i * mk i ≤ bd ((lin bd mk ex bar i).getD k 0) * mk ((lin bd mk ex bar i).getD k 0)) → zGo Γ 187 Q 7 [some (zo 10 0 0), some (zi (iz (n : Int))), some (zi (iz bar)), some (zi (iz (i : Int) + 1)), none] [] (zw (zw M2 10 0 20 (iz (a : Int)).toNatClampNeg (iz (i : Int))) 10 0 0 18 (((zw M2 10 0 20 (iz (a : Int)).toNatClampNeg (iz (i : Int))).1 10 0 0 18) + 1)) := by
          intro a M2 ha ho2 hm hk1 hk2 hk3
          rw [iz_s, iz_clN (by omega), zw_get, if_neg (by omega), hm, iz_s]
          have e : lin bd mk ex bar (i + 1) = (lin bd mk ex bar i).take a ++ i :: (lin bd mk ex bar i).drop a := by
            rw [lin, if_neg]
            · exact ins_at _ a ha hk3 (fun q => (hk2 a (Nat.le_refl _) q).2)
            · rintro (q | q | q)
              · rw [q1] at q; cases q
              · exact q2 q
              · exact q3 q
          have el : (lin bd mk ex bar (i + 1)).length = (lin bd mk ex bar i).length + 1 := by
            rw [e, List.length_append, List.length_cons, List.length_take, List.length_drop]
            omega
          refine ih (i + 1) _ (by omega) ((ho2.w _ ⟨rfl, rfl, Or.inr (Or.inl rfl)⟩).w _ ⟨rfl, rfl, Or.inl ⟨rfl, rfl⟩⟩) ⟨?_, fun k hk => ?_⟩
          · rw [zw_get, if_pos ⟨rfl, rfl, rfl, rfl⟩, el]
          · rw [zw_get, if_neg (by omega), zw_get]
            rw [el] at hk
            rw [e, cut_get ha]
            by_cases c1 : k < a
            · rw [if_neg (by omega), if_pos c1]
              exact hk1 k c1
            · rw [if_neg c1]
              by_cases c2 : k = a
              · rw [if_pos (by omega), if_pos c2]
              · rw [if_neg (by omega), if_neg c2]
                have := (hk2 (k - 1) (by omega) (by omega)).1
                rw [show k - 1 + 1 = k by omega] at this
                exact this
        intro a
        induction a with
        | zero =>
          intro M2 ha ho2 hm hk1 hk2
          refine bk_187_49 ⟨fun _ => ⟨iz_inN (by omega) (by omega), done 0 M2 ha ho2 hm hk1 hk2 (fun k hk => by omega)⟩, fun q => ?_⟩
          exfalso
          exact q (by decide)
        | succ a iha =>
          intro M2 ha ho2 hm hk1 hk2
          have hb2 := hb.off ho2 (fun i => rLy_n (by omega) (by omega) (by omega)) (fun i => rLy_n (by omega) (by omega) (by omega)) (fun i => rLy_n (by omega) (by omega) (by omega))
          have hpl := lin_getD (bd := bd) (mk := mk) (ex := ex) (bar := bar) (n := i) (k := a) (by omega)
          obtain ⟨c1, c2, c3⟩ := hb2 _ (show (lin bd mk ex bar i).getD a 0 < n by omega)
          obtain ⟨d1, d2, d3⟩ := hb2 i (by omega)
          obtain ⟨⟨s1, s2⟩, s3, s4⟩ := hr _ (show (lin bd mk ex bar i).getD a 0 < n by omega)
          have hpr : 0 ≤ bd i * mk i ∧ bd i * mk i ≤ 99 * 9 := ⟨Int.mul_nonneg r1 (by omega), Int.mul_le_mul r2 r4 (by omega) (by omega)⟩
          have hps : 0 ≤ bd ((lin bd mk ex bar i).getD a 0) * mk ((lin bd mk ex bar i).getD a 0) ∧ bd ((lin bd mk ex bar i).getD a 0) * mk ((lin bd mk ex bar i).getD a 0) ≤ 99 * 9 := ⟨Int.mul_nonneg s1 (by omega), Int.mul_le_mul s2 s4 (by omega) (by omega)⟩
          have e1 : iz ((a + 1 : Nat) : Int) - 1 = iz (a : Int) := by rw [iz1, iz_sub]; congr 1; omega
          have e2 : iz ((a + 1 : Nat) : Int) + (-1) = iz (a : Int) := by rw [iz_m1, iz_add]; congr 1; omega
          refine bk_187_49 ⟨fun q => ?_, fun _ => ?_⟩
          · exfalso
            rw [iz0, iz_le (by omega) (by omega) (by omega) (by omega)] at q
            omega
          · rw [e1, e2, iz_clN (show a < 2147483648 by omega), hk1 a (by omega), iz_clN (show (lin bd mk ex bar i).getD a 0 < 2147483648 by omega), iz_clN (show i < 2147483648 by omega), c1, c2, d1, d2, iz_mul, iz_mul, iz_le (by omega) (by omega) (by omega) (by omega)]
            have ia := iz_inN (i := a) (n := 8) (by omega) (by omega)
            have ia1 := iz_inN (i := a + 1) (n := 8) (by omega) (by omega)
            have ig := iz_inN (i := (lin bd mk ex bar i).getD a 0) (n := 8) (by omega) (by omega)
            refine ⟨ia, ig, ia, ig, ii, ii, fun q => ⟨ia1, done (a + 1) M2 ha ho2 hm hk1 hk2 (fun k hk => ?_)⟩, fun q => ⟨ia, ia1, ?_⟩⟩
            · have := dsc_le (lin_dsc (bd := bd) (mk := mk) (ex := ex) (bar := bar) i) (show k ≤ a by omega) (by omega)
              omega
            · rw [iz_clN (show a + 1 < 2147483648 by omega)]
              refine iha _ (by omega) (ho2.w _ ⟨rfl, rfl, Or.inr (Or.inl rfl)⟩) (by rw [zw_get, if_neg (by omega)]; exact hm) (fun k hk => ?_) (fun k hk hkl => ?_)
              · rw [zw_get, if_neg (by omega)]
                exact hk1 k (by omega)
              · rw [zw_get]
                by_cases hka : k = a
                · subst hka
                  rw [if_pos ⟨rfl, rfl, rfl, rfl⟩]
                  exact ⟨rfl, by omega⟩
                · rw [if_neg (by omega)]
                  exact hk2 k (by omega) hkl
      rw [hor.1]
      exact inner _ M1 (Nat.le_refl _) ho hor.1 (fun k hk => hor.2 k hk) (fun k hk hkl => by omega)
  refine en_187 (bk_187_0 (phase1 n 0 _ (by omega) ((Off.rf M).w _ ⟨rfl, rfl, Or.inl ⟨rfl, rfl⟩⟩) ⟨rfl, fun k hk => ?_⟩))
  simp [lin] at hk
end Z32
