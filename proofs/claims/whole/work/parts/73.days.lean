/-! purses: the mathematics -/
def exE (en : Nat → Int) (i : Nat) : Bool := decide (en i ≠ -1)
def lnE (S : SB) (en : Nat → Int) : List Nat := lin (bdS S) (mkS S) (exE en) (S 3) (S 1).toNat
def pyE (S : SB) (en : Nat → Int) (j : Nat) : Int := payB S (bdS S) (mkS S) (S 3) (lnE S en) (S 0).toNat j
def stE (S : SB) (en : Nat → Int) : Nat := min (lnE S en).length (S 0).toNat
def por (S : SB) (pu en : Nat → Int) : Option Nat := fnd (fun p => decide (pu ((lnE S en).getD p 0) < pyE S en p)) 0 (stE S en)
def stpE (S : SB) (pu : Nat → Int) (d : Int) (en : Nat → Int) : Nat → Int := match por S pu en with
  | none => en
  | some p => updB en ((lnE S en).getD p 0) d
def enS (S : SB) (pu : Nat → Int) (d : Int) : Nat → (Nat → Int) → Nat → Int
  | 0, en => en
  | k + 1, en => enS S pu d k (stpE S pu d en)
def puQ (S : SB) (pu en : Nat → Int) (q i : Nat) : Int := match fnd (fun p => (lnE S en).getD p 0 == i) 0 q with
  | none => pu i
  | some p => pu i - pyE S en p
def dyE (S : SB) : Nat → (Nat → Int) × (Nat → Int)
  | 0 => (fun i => S (31 + i), fun _ => -1)
  | d + 1 => (puQ S (dyE S d).1 (enS S (dyE S d).1 ((d + 1 : Nat) : Int) 7 (dyE S d).2) (stE S (enS S (dyE S d).1 ((d + 1 : Nat) : Int) 7 (dyE S d).2)), enS S (dyE S d).1 ((d + 1 : Nat) : Int) 7 (dyE S d).2)
def gDay (S : SB) (y w : Int32) : Int := if 1 ≤ y.toInt ∧ y.toInt ≤ 60 then (if w.toInt = 0 then sumTo (pyE S (dyE S y.toInt.toNat).2) (S 0).toNat else if 10 ≤ w.toInt ∧ w.toInt - 10 < S 1 then (dyE S y.toInt.toNat).1 (w.toInt - 10).toNat else if 20 ≤ w.toInt ∧ w.toInt - 20 < S 0 then (if (w.toInt - 20).toNat < stE S (dyE S y.toInt.toNat).2 then (((lnE S (dyE S y.toInt.toNat).2).getD (w.toInt - 20).toNat 0 : Nat) : Int) else -1) else -1) else -1
def gSpent (S : SB) (y : Int32) : Int := if 0 ≤ y.toInt ∧ y.toInt < S 1 then (dyE S 60).2 y.toInt.toNat else -1
theorem enS_fix {S : SB} {pu : Nat → Int} {d : Int} : ∀ (k : Nat) (en : Nat → Int), por S pu en = none → enS S pu d k en = en
  | 0, _, _ => rfl
  | k + 1, en, h => by
    have e : stpE S pu d en = en := by unfold stpE; rw [h]
    rw [enS, e]
    exact enS_fix k en h
theorem lnE_lt {S : SB} {en : Nat → Int} {x : Nat} (h : x ∈ lnE S en) : x < (S 1).toNat ∧ S 3 ≤ bdS S x := lin_bar h
theorem lnE_len {S : SB} (hS : SOK S) {en : Nat → Int} : (lnE S en).length ≤ 7 := by
  have h7 := hS.2.1
  have := lin_len (bd := bdS S) (mk := mkS S) (ex := exE en) (bar := S 3) (S 1).toNat
  unfold lnE
  omega
theorem lnE_nd {S : SB} {en : Nat → Int} : ∀ a b, a < b → b < (lnE S en).length → (lnE S en).getD a 0 ≠ (lnE S en).getD b 0 := srt_nd (lin_srt (bd := bdS S) (mk := mkS S) (ex := exE en) (bar := S 3) (S 1).toNat)
theorem lnE_up {S : SB} {en : Nat → Int} {x : Nat} {d : Int} (hx : x ∈ lnE S en) (hd : d ≠ -1) : (lnE S (updB en x d)).length < (lnE S en).length := by
  have e : lnE S (updB en x d) = (lnE S en).filter (fun y => decide (y ≠ x)) := by
    refine srt_eq (sc := fun k => bdS S k * mkS S k) _ _ (lin_srt _) (List.Pairwise.filter _ (lin_srt _)) (fun y => ?_)
    unfold lnE
    rw [List.mem_filter, lin_mem, lin_mem, decide_eq_true_iff]
    unfold exE updB
    by_cases e : y = x
    · subst e
      rw [if_pos rfl]
      simp [hd]
    · rw [if_neg e]
      simp [e]
  rw [e]
  exact List.length_filter_lt_length_iff_exists.mpr ⟨x, hx, by simp⟩
theorem por_lt {S : SB} {pu en : Nat → Int} {p : Nat} (h : por S pu en = some p) : p < stE S en ∧ (lnE S en).getD p 0 ∈ lnE S en := by
  obtain ⟨_, b, _⟩ := fnd_lt _ _ _ h
  have hp : p < stE S en := by omega
  refine ⟨hp, getD_mem ?_⟩
  unfold stE at hp
  omega
theorem stp_lt {S : SB} {pu en : Nat → Int} {d : Int} {p : Nat} (hd : d ≠ -1) (h : por S pu en = some p) : (lnE S (stpE S pu d en)).length < (lnE S en).length := by
  unfold stpE
  rw [h]
  exact lnE_up (por_lt h).2 hd
/-- after so many steps nobody is poor -/
theorem enS_end {S : SB} {pu : Nat → Int} {d : Int} (hd : d ≠ -1) : ∀ (k : Nat) (en : Nat → Int), (lnE S en).length ≤ k → por S pu (enS S pu d k en) = none
  | 0, en, h => by
    rw [enS]
    unfold por stE
    rw [show (lnE S en).length = 0 by omega, Nat.zero_min]
    rfl
  | k + 1, en, h => by
    rw [enS]
    cases hp : por S pu en with
    | none =>
      have e : stpE S pu d en = en := by unfold stpE; rw [hp]
      rw [e, enS_fix k en hp]
      exact hp
    | some p =>
      have := stp_lt hd hp
      exact enS_end hd k _ (by omega)
theorem fnd_snoc {P : Nat → Bool} : ∀ (q j : Nat), fnd P j (q + 1) = match fnd P j q with
    | some p => some p
    | none => if P (j + q) = true then some (j + q) else none
  | 0, j => by
    rw [fnd, fnd]
    rfl
  | q + 1, j => by
    rw [fnd]
    by_cases h : P j = true
    · rw [if_pos h]
      have : fnd P j (q + 1) = some j := by rw [fnd, if_pos h]
      rw [this]
    · rw [if_neg h, fnd_snoc q (j + 1)]
      have : fnd P j (q + 1) = fnd P (j + 1) q := by rw [fnd, if_neg h]
      rw [this, show j + 1 + q = j + (q + 1) by omega]
theorem fnd_none {P : Nat → Bool} : ∀ (q j k : Nat), fnd P j q = none → j ≤ k → k < j + q → ¬ P k = true
  | 0, j, k, _, h1, h2 => by omega
  | q + 1, j, k, h, h1, h2 => by
    rw [fnd] at h
    by_cases z : P j = true
    · rw [if_pos z] at h
      cases h
    · rw [if_neg z] at h
      by_cases e : k = j
      · rw [e]
        exact z
      · exact fnd_none q (j + 1) k h (by omega) (by omega)
theorem puQ_s {S : SB} {pu en : Nat → Int} {q : Nat} (hq : q < (lnE S en).length) : puQ S pu en (q + 1) = updB (puQ S pu en q) ((lnE S en).getD q 0) (puQ S pu en q ((lnE S en).getD q 0) - pyE S en q) := by
  have nd := lnE_nd (S := S) (en := en)
  have hno : fnd (fun p => (lnE S en).getD p 0 == (lnE S en).getD q 0) 0 q = none := fnd_no _ _ (fun k _ hk => by
    rw [beq_eq_false_iff_ne]
    exact nd k q (by omega) hq)
  funext i
  unfold updB
  by_cases e : i = (lnE S en).getD q 0
  · rw [if_pos e]
    unfold puQ
    rw [e, fnd_snoc, hno]
    simp
  · rw [if_neg e]
    unfold puQ
    rw [fnd_snoc]
    cases fnd (fun p => (lnE S en).getD p 0 == i) 0 q with
    | some p => rfl
    | none =>
      simp only [Nat.zero_add]
      rw [if_neg (by simpa using fun z => e z.symm)]
theorem puQ_b {S : SB} {pu en : Nat → Int} {m : Nat} (hpy : ∀ j, 0 ≤ pyE S en j) (hp : por S pu en = none) (hb : ∀ i, i < m → 0 ≤ pu i ∧ pu i ≤ 9999) : ∀ q, q ≤ stE S en → ∀ i, i < m → 0 ≤ puQ S pu en q i ∧ puQ S pu en q i ≤ 9999 := fun q hq i hi => by
  have h1 := hb i hi
  unfold puQ
  cases hf : fnd (fun p => (lnE S en).getD p 0 == i) 0 q with
  | none => exact h1
  | some p =>
    obtain ⟨_, p2, p3⟩ := fnd_lt _ _ _ hf
    have := fnd_none _ _ p hp (by omega) (by omega)
    have hpy := hpy p
    rw [decide_eq_true_iff] at this
    rw [beq_iff_eq] at p3
    rw [p3] at this
    simp only
    omega
theorem pyE_b {S : SB} (hS : SOK S) {en : Nat → Int} (j : Nat) : 0 ≤ pyE S en j ∧ pyE S en j ≤ 88209 := payB_b hS (rngS hS) (fun x hx => (lnE_lt hx).1) hS.2.2.2.1 (fun x hx => (lnE_lt hx).2) j
theorem enS_b {S : SB} {pu : Nat → Int} {d : Int} : ∀ (k : Nat) (en : Nat → Int), (∀ i, en i = -1 ∨ (1 ≤ en i ∧ en i ≤ 60)) → 1 ≤ d ∧ d ≤ 60 → ∀ i, enS S pu d k en i = -1 ∨ (1 ≤ enS S pu d k en i ∧ enS S pu d k en i ≤ 60)
  | 0, en, h, _ => h
  | k + 1, en, h, hd => by
    rw [enS]
    refine enS_b k _ (fun i => ?_) hd
    unfold stpE
    cases por S pu en with
    | none => exact h i
    | some p =>
      show updB en ((lnE S en).getD p 0) d i = -1 ∨ (1 ≤ updB en ((lnE S en).getD p 0) d i ∧ updB en ((lnE S en).getD p 0) d i ≤ 60)
      unfold updB
      by_cases e : i = (lnE S en).getD p 0
      · rw [if_pos e]
        exact Or.inr hd
      · rw [if_neg e]
        exact h i
theorem dyE_b {S : SB} (hS : SOK S) : ∀ d : Nat, d ≤ 60 → (∀ i, i < 7 → 0 ≤ (dyE S d).1 i ∧ (dyE S d).1 i ≤ 9999) ∧ ∀ i, (dyE S d).2 i = -1 ∨ (1 ≤ (dyE S d).2 i ∧ (dyE S d).2 i ≤ 60)
  | 0, _ => ⟨fun i hi => hS.2.2.2.2.2.2.2.2.1 i hi, fun i => Or.inl rfl⟩
  | d + 1, hd => by
    have ih := dyE_b hS d (by omega)
    exact ⟨puQ_b (fun j => (pyE_b hS j).1) (enS_end (by omega) 7 _ (lnE_len hS)) ih.1 _ (Nat.le_refl _), enS_b 7 _ ih.2 (by omega)⟩
